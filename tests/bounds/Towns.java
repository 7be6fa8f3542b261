/** Towns in which boundary cases are tried. */
final class Towns {
    private Towns() {
    }

    static ThreeColours empty() {
        return new ThreeColours();
    }

    /**
     * Something of everything: four THINGS, three WINDOWS, three PEOPLE, two LAWS, WALKS, a DAY, a TAPE that holds two
     * WALKS and a byte, a FAULT, SPOILT ones, an IMAGE 0, none 1, and refusals. The latest call was not REFUSED.
     */
    static ThreeColours busy() {
        ThreeColours town = new ThreeColours();
        town.thing(1, 2, 3, 4, 50);
        town.thing(2, 5, 5, 7, 20);
        town.window(0b0111, 0b11, 9);
        town.person(6);
        town.walk(0, 7, 1);
        town.image(0);
        town.thing(0, 4, 1, 3, 30);
        town.thing(3, 7, 0, 2, 10);
        town.put(1, 5, 1);
        town.bloom(2, 1 << 2 | 1 << 11, 6);
        town.window(0b1111, 0b1100, 5);
        town.window(0, 1023, 6);
        town.person(1);
        town.person(6);
        town.street(0, 1, 1);
        town.street(1, 9, 1);
        town.same(3, 4, 1);
        town.month(2);
        town.walk(1, 5, 0);
        town.walk(2, 7, 9);
        town.month(12);
        town.put(9, 0, 0);
        town.same(1, 1, 1);
        Due.law(town, "limit 2 if window=0;cost colour+thing");
        Due.law(town, "limit 3;limit 2 if window=2;hidden if thing=3 and month=11");
        Due.law(town, "limit");
        town.force(1);
        Due.tape(town, "\u0002\u0003\u00ff\u0009\u0009\u0009");
        town.row();
        town.day(77);
        Due.tape(town, "\u0000\u0064\u0003\u0001\u0065\u0004\u0000");
        return town;
    }

    /** As many of everything as there may be: 10 THINGS, 8 WINDOWS, 5 PEOPLE, 6 LAWS, 60 WALKS, 400 bytes, both IMAGES. */
    static ThreeColours full() {
        ThreeColours town = new ThreeColours();
        for (int i = 0; i < 10; i++) {
            town.thing(i % 4, i % 8, (i + 1) % 8, i, 10 * i);
        }
        for (int i = 0; i < 8; i++) {
            town.window(0b11 << i, 0b101 << i, i);
        }
        for (int i = 0; i < 5; i++) {
            town.person(i);
        }
        walks(town, 60);
        for (int i = 0; i < 6; i++) {
            Due.law(town, "limit 2");
        }
        town.street(0, 9, 1);
        town.image(0);
        town.image(1);
        town.force(5);
        for (int i = 0; i < 20; i++) {
            town.feed(0x00640301, 0x65040000, 0, 0, 0);
        }
        return town;
    }

    /** So many WALKS of one, all to PLACE 5 and in the same MINUTE, as ROWS: seldom more than ten calls. */
    static void walks(ThreeColours town, int number) {
        StringBuilder text = new StringBuilder();
        for (int i = 0; i < number; i++) {
            text.append("\u0000\u0007\u0005");
        }
        Due.tape(town, text.toString());
        town.row();
    }
}
