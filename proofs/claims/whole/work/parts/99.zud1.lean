/-! the model: instructions of its constructor -/
theorem dX12_init_199 : decode cX12_init 199 = .ok (.bipush 27, 2) := by decide +kernel
theorem dX12_init_201 : decode cX12_init 201 = .ok (.bipush 114, 2) := by decide +kernel
theorem dX12_init_203 : decode cX12_init 203 = .ok (.bastore, 1) := by decide +kernel
theorem dX12_init_204 : decode cX12_init 204 = .ok (.dup, 1) := by decide +kernel
theorem dX12_init_205 : decode cX12_init 205 = .ok (.bipush 28, 2) := by decide +kernel
theorem dX12_init_207 : decode cX12_init 207 = .ok (.bipush 32, 2) := by decide +kernel
theorem dX12_init_209 : decode cX12_init 209 = .ok (.bastore, 1) := by decide +kernel
theorem dX12_init_210 : decode cX12_init 210 = .ok (.dup, 1) := by decide +kernel
theorem dX12_init_211 : decode cX12_init 211 = .ok (.bipush 29, 2) := by decide +kernel
theorem dX12_init_213 : decode cX12_init 213 = .ok (.bipush 97, 2) := by decide +kernel
theorem dX12_init_215 : decode cX12_init 215 = .ok (.bastore, 1) := by decide +kernel
theorem dX12_init_216 : decode cX12_init 216 = .ok (.dup, 1) := by decide +kernel
theorem dX12_init_217 : decode cX12_init 217 = .ok (.bipush 30, 2) := by decide +kernel
theorem dX12_init_219 : decode cX12_init 219 = .ok (.bipush 110, 2) := by decide +kernel
theorem dX12_init_221 : decode cX12_init 221 = .ok (.bastore, 1) := by decide +kernel
theorem dX12_init_222 : decode cX12_init 222 = .ok (.dup, 1) := by decide +kernel
theorem dX12_init_223 : decode cX12_init 223 = .ok (.bipush 31, 2) := by decide +kernel
theorem dX12_init_225 : decode cX12_init 225 = .ok (.bipush 100, 2) := by decide +kernel
theorem dX12_init_227 : decode cX12_init 227 = .ok (.bastore, 1) := by decide +kernel
theorem dX12_init_228 : decode cX12_init 228 = .ok (.dup, 1) := by decide +kernel
theorem dX12_init_229 : decode cX12_init 229 = .ok (.bipush 32, 2) := by decide +kernel
theorem dX12_init_231 : decode cX12_init 231 = .ok (.bipush 32, 2) := by decide +kernel
theorem dX12_init_233 : decode cX12_init 233 = .ok (.bastore, 1) := by decide +kernel
theorem dX12_init_234 : decode cX12_init 234 = .ok (.dup, 1) := by decide +kernel
theorem dX12_init_235 : decode cX12_init 235 = .ok (.bipush 33, 2) := by decide +kernel
theorem dX12_init_237 : decode cX12_init 237 = .ok (.bipush 110, 2) := by decide +kernel
theorem dX12_init_239 : decode cX12_init 239 = .ok (.bastore, 1) := by decide +kernel
theorem dX12_init_240 : decode cX12_init 240 = .ok (.dup, 1) := by decide +kernel
theorem dX12_init_241 : decode cX12_init 241 = .ok (.bipush 34, 2) := by decide +kernel
theorem dX12_init_243 : decode cX12_init 243 = .ok (.bipush 111, 2) := by decide +kernel
theorem dX12_init_245 : decode cX12_init 245 = .ok (.bastore, 1) := by decide +kernel
theorem dX12_init_246 : decode cX12_init 246 = .ok (.dup, 1) := by decide +kernel
theorem dX12_init_247 : decode cX12_init 247 = .ok (.bipush 35, 2) := by decide +kernel
theorem dX12_init_249 : decode cX12_init 249 = .ok (.bipush 116, 2) := by decide +kernel
theorem dX12_init_251 : decode cX12_init 251 = .ok (.bastore, 1) := by decide +kernel
theorem dX12_init_252 : decode cX12_init 252 = .ok (.dup, 1) := by decide +kernel
theorem dX12_init_253 : decode cX12_init 253 = .ok (.bipush 36, 2) := by decide +kernel
theorem dX12_init_255 : decode cX12_init 255 = .ok (.bipush 32, 2) := by decide +kernel
theorem dX12_init_257 : decode cX12_init 257 = .ok (.bastore, 1) := by decide +kernel
theorem dX12_init_258 : decode cX12_init 258 = .ok (.dup, 1) := by decide +kernel
theorem dX12_init_259 : decode cX12_init 259 = .ok (.bipush 37, 2) := by decide +kernel
theorem dX12_init_261 : decode cX12_init 261 = .ok (.bipush 119, 2) := by decide +kernel
theorem dX12_init_263 : decode cX12_init 263 = .ok (.bastore, 1) := by decide +kernel
theorem dX12_init_264 : decode cX12_init 264 = .ok (.dup, 1) := by decide +kernel
theorem dX12_init_265 : decode cX12_init 265 = .ok (.bipush 38, 2) := by decide +kernel
theorem dX12_init_267 : decode cX12_init 267 = .ok (.bipush 105, 2) := by decide +kernel
theorem dX12_init_269 : decode cX12_init 269 = .ok (.bastore, 1) := by decide +kernel
theorem dX12_init_270 : decode cX12_init 270 = .ok (.dup, 1) := by decide +kernel
theorem dX12_init_271 : decode cX12_init 271 = .ok (.bipush 39, 2) := by decide +kernel
theorem dX12_init_273 : decode cX12_init 273 = .ok (.bipush 110, 2) := by decide +kernel
theorem dX12_init_275 : decode cX12_init 275 = .ok (.bastore, 1) := by decide +kernel
theorem dX12_init_276 : decode cX12_init 276 = .ok (.dup, 1) := by decide +kernel
theorem dX12_init_277 : decode cX12_init 277 = .ok (.bipush 40, 2) := by decide +kernel
theorem dX12_init_279 : decode cX12_init 279 = .ok (.bipush 100, 2) := by decide +kernel
theorem dX12_init_281 : decode cX12_init 281 = .ok (.bastore, 1) := by decide +kernel
theorem dX12_init_282 : decode cX12_init 282 = .ok (.dup, 1) := by decide +kernel
theorem dX12_init_283 : decode cX12_init 283 = .ok (.bipush 41, 2) := by decide +kernel
theorem dX12_init_285 : decode cX12_init 285 = .ok (.bipush 111, 2) := by decide +kernel
theorem dX12_init_287 : decode cX12_init 287 = .ok (.bastore, 1) := by decide +kernel
theorem dX12_init_288 : decode cX12_init 288 = .ok (.dup, 1) := by decide +kernel
theorem dX12_init_289 : decode cX12_init 289 = .ok (.bipush 42, 2) := by decide +kernel
theorem dX12_init_291 : decode cX12_init 291 = .ok (.bipush 119, 2) := by decide +kernel
theorem dX12_init_293 : decode cX12_init 293 = .ok (.bastore, 1) := by decide +kernel
theorem dX12_init_294 : decode cX12_init 294 = .ok (.dup, 1) := by decide +kernel
theorem dX12_init_295 : decode cX12_init 295 = .ok (.bipush 43, 2) := by decide +kernel
theorem dX12_init_297 : decode cX12_init 297 = .ok (.bipush 32, 2) := by decide +kernel
theorem dX12_init_299 : decode cX12_init 299 = .ok (.bastore, 1) := by decide +kernel
theorem dX12_init_300 : decode cX12_init 300 = .ok (.dup, 1) := by decide +kernel
theorem dX12_init_301 : decode cX12_init 301 = .ok (.bipush 44, 2) := by decide +kernel
theorem dX12_init_303 : decode cX12_init 303 = .ok (.bipush 116, 2) := by decide +kernel
theorem dX12_init_305 : decode cX12_init 305 = .ok (.bastore, 1) := by decide +kernel
theorem dX12_init_306 : decode cX12_init 306 = .ok (.dup, 1) := by decide +kernel
theorem dX12_init_307 : decode cX12_init 307 = .ok (.bipush 45, 2) := by decide +kernel
theorem dX12_init_309 : decode cX12_init 309 = .ok (.bipush 104, 2) := by decide +kernel
theorem dX12_init_311 : decode cX12_init 311 = .ok (.bastore, 1) := by decide +kernel
theorem dX12_init_312 : decode cX12_init 312 = .ok (.dup, 1) := by decide +kernel
theorem dX12_init_313 : decode cX12_init 313 = .ok (.bipush 46, 2) := by decide +kernel
theorem dX12_init_315 : decode cX12_init 315 = .ok (.bipush 105, 2) := by decide +kernel
theorem dX12_init_317 : decode cX12_init 317 = .ok (.bastore, 1) := by decide +kernel
theorem dX12_init_318 : decode cX12_init 318 = .ok (.dup, 1) := by decide +kernel
theorem dX12_init_319 : decode cX12_init 319 = .ok (.bipush 47, 2) := by decide +kernel
theorem dX12_init_321 : decode cX12_init 321 = .ok (.bipush 110, 2) := by decide +kernel
theorem dX12_init_323 : decode cX12_init 323 = .ok (.bastore, 1) := by decide +kernel
theorem dX12_init_324 : decode cX12_init 324 = .ok (.dup, 1) := by decide +kernel
theorem dX12_init_325 : decode cX12_init 325 = .ok (.bipush 48, 2) := by decide +kernel
theorem dX12_init_327 : decode cX12_init 327 = .ok (.bipush 103, 2) := by decide +kernel
theorem dX12_init_329 : decode cX12_init 329 = .ok (.bastore, 1) := by decide +kernel
theorem dX12_init_330 : decode cX12_init 330 = .ok (.dup, 1) := by decide +kernel
theorem dX12_init_331 : decode cX12_init 331 = .ok (.bipush 49, 2) := by decide +kernel
theorem dX12_init_333 : decode cX12_init 333 = .ok (.bipush 32, 2) := by decide +kernel
theorem dX12_init_335 : decode cX12_init 335 = .ok (.bastore, 1) := by decide +kernel
theorem dX12_init_336 : decode cX12_init 336 = .ok (.dup, 1) := by decide +kernel
theorem dX12_init_337 : decode cX12_init 337 = .ok (.bipush 50, 2) := by decide +kernel
theorem dX12_init_339 : decode cX12_init 339 = .ok (.bipush 112, 2) := by decide +kernel
theorem dX12_init_341 : decode cX12_init 341 = .ok (.bastore, 1) := by decide +kernel
theorem dX12_init_342 : decode cX12_init 342 = .ok (.dup, 1) := by decide +kernel
theorem dX12_init_343 : decode cX12_init 343 = .ok (.bipush 51, 2) := by decide +kernel
theorem dX12_init_345 : decode cX12_init 345 = .ok (.bipush 108, 2) := by decide +kernel
theorem dX12_init_347 : decode cX12_init 347 = .ok (.bastore, 1) := by decide +kernel
theorem dX12_init_348 : decode cX12_init 348 = .ok (.dup, 1) := by decide +kernel
theorem dX12_init_349 : decode cX12_init 349 = .ok (.bipush 52, 2) := by decide +kernel
theorem dX12_init_351 : decode cX12_init 351 = .ok (.bipush 97, 2) := by decide +kernel
theorem dX12_init_353 : decode cX12_init 353 = .ok (.bastore, 1) := by decide +kernel
theorem dX12_init_354 : decode cX12_init 354 = .ok (.dup, 1) := by decide +kernel
theorem dX12_init_355 : decode cX12_init 355 = .ok (.bipush 53, 2) := by decide +kernel
theorem dX12_init_357 : decode cX12_init 357 = .ok (.bipush 99, 2) := by decide +kernel
theorem dX12_init_359 : decode cX12_init 359 = .ok (.bastore, 1) := by decide +kernel
theorem dX12_init_360 : decode cX12_init 360 = .ok (.dup, 1) := by decide +kernel
theorem dX12_init_361 : decode cX12_init 361 = .ok (.bipush 54, 2) := by decide +kernel
theorem dX12_init_363 : decode cX12_init 363 = .ok (.bipush 101, 2) := by decide +kernel
theorem dX12_init_365 : decode cX12_init 365 = .ok (.bastore, 1) := by decide +kernel
theorem dX12_init_366 : decode cX12_init 366 = .ok (.dup, 1) := by decide +kernel
theorem dX12_init_367 : decode cX12_init 367 = .ok (.bipush 55, 2) := by decide +kernel
theorem dX12_init_369 : decode cX12_init 369 = .ok (.bipush 32, 2) := by decide +kernel
theorem dX12_init_371 : decode cX12_init 371 = .ok (.bastore, 1) := by decide +kernel
theorem dX12_init_372 : decode cX12_init 372 = .ok (.dup, 1) := by decide +kernel
theorem dX12_init_373 : decode cX12_init 373 = .ok (.bipush 56, 2) := by decide +kernel
theorem dX12_init_375 : decode cX12_init 375 = .ok (.bipush 99, 2) := by decide +kernel
theorem dX12_init_377 : decode cX12_init 377 = .ok (.bastore, 1) := by decide +kernel
theorem dX12_init_378 : decode cX12_init 378 = .ok (.dup, 1) := by decide +kernel
theorem dX12_init_379 : decode cX12_init 379 = .ok (.bipush 57, 2) := by decide +kernel
theorem dX12_init_381 : decode cX12_init 381 = .ok (.bipush 111, 2) := by decide +kernel
theorem dX12_init_383 : decode cX12_init 383 = .ok (.bastore, 1) := by decide +kernel
theorem dX12_init_384 : decode cX12_init 384 = .ok (.dup, 1) := by decide +kernel
theorem dX12_init_385 : decode cX12_init 385 = .ok (.bipush 58, 2) := by decide +kernel
theorem dX12_init_387 : decode cX12_init 387 = .ok (.bipush 108, 2) := by decide +kernel
theorem dX12_init_389 : decode cX12_init 389 = .ok (.bastore, 1) := by decide +kernel
theorem dX12_init_390 : decode cX12_init 390 = .ok (.dup, 1) := by decide +kernel
theorem dX12_init_391 : decode cX12_init 391 = .ok (.bipush 59, 2) := by decide +kernel
theorem dX12_init_393 : decode cX12_init 393 = .ok (.bipush 111, 2) := by decide +kernel
