/-! PAINTER in memory: a block is recorded, the whole -/
section
variable {w : Wd} {d : Nat} {i : IM} {l : LM}
/-- all but what is found -/
def pfr (a : Nat) (i i' : IM) : Prop := (∀ c, c ≠ a → c ≠ a + 9 → i' c = i c) ∧ ∀ k : Int, k ≠ 11 → k ≠ 12 → k ≠ 13 → k ≠ 14 → i' a k = i a k
theorem pfr_rf (a : Nat) (i : IM) : pfr a i i := ⟨fun _ _ _ => rfl, fun _ _ _ _ _ => rfl⟩
theorem sp_X5_record {P : IM → LM → Prop} {a : Nat} (ha : a = 63 ∨ a = 73) (hd : 3 ≤ d) {n : Nat} (hc : cvOK i n) (hx : SxM i a n) {t : Nat} (ht : t ≤ n) {o : Nat → Nat} (ho : ∀ j : Nat, j < t → i (a + 3) (j : Int) = ((o j : Nat) : Int) ∧ o j < 3) {b : Bool} {s : SA} (hs : pS i a n b s) (hb : (0 ≤ s.1 ∧ s.1 ≤ 1000000) ∧ (0 ≤ s.2.1.1 ∧ s.2.1.1 ≤ 1000000)) (hP : ∀ i', pfr a i i' → pS i' a n b (addB (blk (pcM i) (n - t) t o) s) → P i' l) : cVd w d X_X5_record [vR (some a), vI (t : Int), vI (vs (pcM i).2.1 o t), vI (pk3 (vs (pcM i).2.2.1 o t) (vs (pcM i).2.2.2.1 o t) (vs (pcM i).2.2.2.2 o t))] i l P := by
  obtain ⟨d, rfl, hd1⟩ := d_pos hd
  obtain ⟨s1, s2, s3, s4, s5, s6⟩ := hs
  obtain ⟨x4, x5, x6, x7⟩ := hx.1 t ht
  have hn := hc.1
  have hbd := sx_bd hc (n - t) t (by omega)
  have h3 : (3 : Int) ^ (n - t) ≤ 59049 := by
    have : ∀ k : Nat, k ≤ 10 → (3 : Int) ^ k ≤ 59049 := by decide
    exact this _ (by omega)
  have vg := vs_bd (g := (pcM i).2.1) (o := o) (lo := -99) (hi := 99) t (fun j hj => (pcM_bd hc (show j < n by omega) _ (ho j hj).2).1)
  have v1 := vs_bd (g := (pcM i).2.2.1) (o := o) (lo := 0) (hi := 1) t (fun j hj => (pcM_bd hc (show j < n by omega) _ (ho j hj).2).2.1)
  have v2 := vs_bd (g := (pcM i).2.2.2.1) (o := o) (lo := 0) (hi := 1) t (fun j hj => (pcM_bd hc (show j < n by omega) _ (ho j hj).2).2.2.1)
  have v3 := vs_bd (g := (pcM i).2.2.2.2) (o := o) (lo := 0) (hi := 1) t (fun j hj => (pcM_bd hc (show j < n by omega) _ (ho j hj).2).2.2.2)
  have hpk : leastI (pk3 s.2.2.1 s.2.2.2.1 s.2.2.2.2) (pk3 (vs (pcM i).2.2.1 o t) (vs (pcM i).2.2.2.1 o t) (vs (pcM i).2.2.2.2 o t) + pk3 (sx (pcM i) (n - t) t).2.2.2.1 (sx (pcM i) (n - t) t).2.2.2.2.1 (sx (pcM i) (n - t) t).2.2.2.2.2) = pk3 (min s.2.2.1 (vs (pcM i).2.2.1 o t + (sx (pcM i) (n - t) t).2.2.2.1)) (min s.2.2.2.1 (vs (pcM i).2.2.2.1 o t + (sx (pcM i) (n - t) t).2.2.2.2.1)) (min s.2.2.2.2 (vs (pcM i).2.2.2.2 o t + (sx (pcM i) (n - t) t).2.2.2.2.2)) := by
    obtain ⟨f1, e1⟩ := Int.eq_ofNat_of_zero_le s5.1.1
    obtain ⟨f2, e2⟩ := Int.eq_ofNat_of_zero_le s5.2.1.1
    obtain ⟨f3, e3⟩ := Int.eq_ofNat_of_zero_le s5.2.2.1
    obtain ⟨g1, k1⟩ := Int.eq_ofNat_of_zero_le (show 0 ≤ vs (pcM i).2.2.1 o t + (sx (pcM i) (n - t) t).2.2.2.1 by omega)
    obtain ⟨g2, k2⟩ := Int.eq_ofNat_of_zero_le (show 0 ≤ vs (pcM i).2.2.2.1 o t + (sx (pcM i) (n - t) t).2.2.2.2.1 by omega)
    obtain ⟨g3, k3⟩ := Int.eq_ofNat_of_zero_le (show 0 ≤ vs (pcM i).2.2.2.2 o t + (sx (pcM i) (n - t) t).2.2.2.2.2 by omega)
    have ee : pk3 (vs (pcM i).2.2.1 o t) (vs (pcM i).2.2.2.1 o t) (vs (pcM i).2.2.2.2 o t) + pk3 (sx (pcM i) (n - t) t).2.2.2.1 (sx (pcM i) (n - t) t).2.2.2.2.1 (sx (pcM i) (n - t) t).2.2.2.2.2 = pk3 (g1 : Int) (g2 : Int) (g3 : Int) := by unfold pk3; omega
    rw [ee, e1, e2, e3, k1, k2, k3, leastI_pk (by omega) (by omega) (by omega) (by omega) (by omega) (by omega)]
    unfold pk3
    omega
  have nE : ∀ (j : IM) (k v x : Int), k ≠ x → u2 j a k v a x = j a x := fun j k v x h => if_neg (fun z => h z.2.symm)
  have hJ : ∀ J : IM, J = u2 (u2 i a 11 (i a 11 + i (a + 4) (t : Int))) a 14 (leastI (u2 i a 11 (i a 11 + i (a + 4) (t : Int)) a 14) (pk3 (vs (pcM i).2.2.1 o t) (vs (pcM i).2.2.2.1 o t) (vs (pcM i).2.2.2.2 o t) + u2 i a 11 (i a 11 + i (a + 4) (t : Int)) (a + 7) (t : Int))) → ((∀ c, c ≠ a → J c = i c) ∧ J a 11 = s.1 + (sx (pcM i) (n - t) t).1 ∧ J a 12 = s.2.1.1 ∧ J a 13 = s.2.1.2.1 ∧ J a 14 = pk3 (min s.2.2.1 (vs (pcM i).2.2.1 o t + (sx (pcM i) (n - t) t).2.2.2.1)) (min s.2.2.2.1 (vs (pcM i).2.2.2.1 o t + (sx (pcM i) (n - t) t).2.2.2.2.1)) (min s.2.2.2.2 (vs (pcM i).2.2.2.2 o t + (sx (pcM i) (n - t) t).2.2.2.2.2)) ∧ ∀ k : Int, k ≠ 11 → k ≠ 14 → J a k = i a k) := by
    intro J eJ
    subst eJ
    refine ⟨fun c hc => by rw [u2_other _ _ _ hc, u2_other _ _ _ hc], ?_, ?_, ?_, ?_, fun k h1 h2 => ?_⟩
    · rw [nE _ _ _ _ (by decide), u2_self, s1, x4]
    · rw [nE _ _ _ _ (by decide), nE _ _ _ _ (by decide), s2]
    · rw [nE _ _ _ _ (by decide), nE _ _ _ _ (by decide), s3]
    · rw [u2_self, nE _ _ _ _ (by decide), u2_other _ _ _ (show a + 7 ≠ a by omega), s4, x7, hpk]
    · rw [nE _ _ _ _ (fun z => h2 z.symm), nE _ _ _ _ (fun z => h1 z.symm)]
  refine e_X5_record (g_rg (fun hrg => s_X5_record _ _ _ ha (by omega) ⟨⟨by omega, by omega⟩, by rw [s1, x4]; exact ⟨by omega, by omega⟩, ?_⟩))
  generalize hJe : u2 (u2 i a 11 (i a 11 + i (a + 4) (t : Int))) a 14 (leastI (u2 i a 11 (i a 11 + i (a + 4) (t : Int)) a 14) (pk3 (vs (pcM i).2.2.1 o t) (vs (pcM i).2.2.2.1 o t) (vs (pcM i).2.2.2.2 o t) + u2 i a 11 (i a 11 + i (a + 4) (t : Int)) (a + 7) (t : Int))) = J
  obtain ⟨j0, j11, j12, j13, j14, jo⟩ := hJ J hJe.symm
  have j6 : J (a + 6) (t : Int) = (sx (pcM i) (n - t) t).2.2.1 := by rw [j0 _ (by omega), x6]
  have j5 : J (a + 5) (t : Int) = (sx (pcM i) (n - t) t).2.1 := by rw [j0 _ (by omega), x5]
  have hval : rg s.2.1.2.1 := by rw [← s3]; exact hrg a 13
  rw [j6]
  have hup : (addB (blk (pcM i) (n - t) t o) s).2.1 = upB (sx (pcM i) (n - t) t).2.1 (vs (pcM i).2.1 o t + (sx (pcM i) (n - t) t).2.2.1) (fun j => if j < t then o j else (loc (pcM i) j).2.2.2.1) s.2.1 := rfl
  have hmin : ((0 ≤ min s.2.2.1 (vs (pcM i).2.2.1 o t + (sx (pcM i) (n - t) t).2.2.2.1) ∧ min s.2.2.1 (vs (pcM i).2.2.1 o t + (sx (pcM i) (n - t) t).2.2.2.1) ≤ 255) ∧ (0 ≤ min s.2.2.2.1 (vs (pcM i).2.2.2.1 o t + (sx (pcM i) (n - t) t).2.2.2.2.1) ∧ min s.2.2.2.1 (vs (pcM i).2.2.2.1 o t + (sx (pcM i) (n - t) t).2.2.2.2.1) ≤ 255) ∧ (0 ≤ min s.2.2.2.2 (vs (pcM i).2.2.2.2 o t + (sx (pcM i) (n - t) t).2.2.2.2.2) ∧ min s.2.2.2.2 (vs (pcM i).2.2.2.2 o t + (sx (pcM i) (n - t) t).2.2.2.2.2) ≤ 255)) := by omega
  refine ⟨fun _ => ⟨by omega, by omega⟩, fun q => ?_, fun q => ?_⟩
  · rw [j12, j13] at q
    refine s_X5_record_61 _ _ ha ⟨fun _ => ⟨by omega, by omega⟩, fun q2 => ⟨⟨by omega, by omega⟩, ⟨by omega, by omega⟩, ?_⟩, fun q2 => ⟨⟨by omega, by omega⟩, by rw [j12, j5]; exact ⟨by omega, by omega⟩, ?_⟩⟩
    · rw [j12, j13] at q2
      have hu : upB (sx (pcM i) (n - t) t).2.1 (vs (pcM i).2.1 o t + (sx (pcM i) (n - t) t).2.2.1) (fun j => if j < t then o j else (loc (pcM i) j).2.2.2.1) s.2.1 = ((sx (pcM i) (n - t) t).2.1, vs (pcM i).2.1 o t + (sx (pcM i) (n - t) t).2.2.1, fun j => if j < t then o j else (loc (pcM i) j).2.2.2.1) := by
        unfold upB
        rw [if_neg (by omega), if_neg (by omega)]
      have j5' : u2 J a 13 (vs (pcM i).2.1 o t + (sx (pcM i) (n - t) t).2.2.1) (a + 5) (t : Int) = (sx (pcM i) (n - t) t).2.1 := by rw [u2_other _ _ _ (by omega), j5]
      rw [j5']
      refine lp_rec (i := u2 (u2 J a 13 (vs (pcM i).2.1 o t + (sx (pcM i) (n - t) t).2.2.1)) a 12 (sx (pcM i) (n - t) t).2.1) ha hn (by rw [u2_other _ _ _ (by omega), u2_other _ _ _ (by omega), j0 7 (by omega)]; exact hc.2.1) ht (f := fun j => if j < t then o j else (loc (pcM i) j).2.2.2.1) (fun j hj => ?_) (fun i' hi' hf' => ?_) n 0 (Nat.zero_add _) _ (fun _ _ => rfl) (fun j hj => by omega)
      · rw [u2_other _ _ _ (show a + 3 ≠ a by omega), u2_other _ _ _ (show a + 3 ≠ a by omega), u2_other _ _ _ (show a + 8 ≠ a by omega), u2_other _ _ _ (show a + 8 ≠ a by omega), j0 _ (by omega), j0 _ (by omega)]
        by_cases c : j < t
        · rw [if_pos c, (ho j c).1]
          show _ = (((if j < t then o j else (loc (pcM i) j).2.2.2.1) : Nat) : Int)
          rw [if_pos c]
        · rw [if_neg c, hx.2 j hj]
          show _ = (((if j < t then o j else (loc (pcM i) j).2.2.2.1) : Nat) : Int)
          rw [if_neg c]
      · have ea := hi' a (by omega)
        refine hP i' ⟨fun c h1 h2 => by rw [hi' c h2, u2_other _ _ _ h1, u2_other _ _ _ h1, j0 c h1], fun k h1 h2 h3 h4 => by rw [ea, nE _ _ _ _ (fun z => h2 z.symm), nE _ _ _ _ (fun z => h3 z.symm), jo k h1 h4]⟩ ⟨?_, ?_, ?_, ?_, hmin, fun _ _ j hj => ?_⟩
        · rw [ea, nE _ _ _ _ (by decide), nE _ _ _ _ (by decide), j11]; rfl
        · rw [ea, u2_self, hup, hu]
        · rw [ea, nE _ _ _ _ (by decide), u2_self, hup, hu]
        · rw [ea, nE _ _ _ _ (by decide), nE _ _ _ _ (by decide), j14]; rfl
        · rw [hf' j hj, hup, hu]
    · rw [j12, j13] at q2
      have hu : upB (sx (pcM i) (n - t) t).2.1 (vs (pcM i).2.1 o t + (sx (pcM i) (n - t) t).2.2.1) (fun j => if j < t then o j else (loc (pcM i) j).2.2.2.1) s.2.1 = (s.2.1.1 + (sx (pcM i) (n - t) t).2.1, s.2.1.2.1, s.2.1.2.2) := by
        unfold upB
        rw [if_neg (by omega), if_pos (by omega)]
      refine hP _ ⟨fun c h1 h2 => by rw [u2_other _ _ _ h1, j0 c h1], fun k h1 h2 h3 h4 => by rw [nE _ _ _ _ (fun z => h2 z.symm), jo k h1 h4]⟩ ⟨?_, ?_, ?_, ?_, hmin, fun hb1 _ j hj => ?_⟩
      · rw [nE _ _ _ _ (by decide), j11]; rfl
      · rw [u2_self, j12, j5, hup, hu]
      · rw [nE _ _ _ _ (by decide), j13, hup, hu]
      · rw [nE _ _ _ _ (by decide), j14]; rfl
      · rw [u2_other _ _ _ (by omega), j0 _ (by omega), s6 hb1 (by omega) j hj, hup, hu]
  · rw [j12, j13] at q
    have hu : upB (sx (pcM i) (n - t) t).2.1 (vs (pcM i).2.1 o t + (sx (pcM i) (n - t) t).2.2.1) (fun j => if j < t then o j else (loc (pcM i) j).2.2.2.1) s.2.1 = s.2.1 := by
      unfold upB
      rw [if_pos (by omega)]
    refine hP J ⟨fun c h1 h2 => j0 c h1, fun k h1 h2 h3 h4 => jo k h1 h4⟩ ⟨?_, ?_, ?_, ?_, hmin, fun hb1 h0 j hj => ?_⟩
    · rw [j11]; rfl
    · rw [j12, hup, hu]
    · rw [j13, hup, hu]
    · rw [j14]; rfl
    · rw [hup, hu] at h0 ⊢
      rw [j0 _ (by omega)]; exact s6 hb1 h0 j hj
end
