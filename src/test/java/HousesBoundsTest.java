// The boundary cases of THE TEXT, of what is LAID, and of promises 1 to 9, sentence by sentence.
public final class HousesBoundsTest {
    private static final int BAD = Bounds.BAD, NO = Bounds.NO, FULL = Bounds.FULL, NONE = Bounds.NONE;
    private static final String PERSON = "p0,0,0;";
    private static final String TEXT = "a TEXT";
    private static final String LAID = "LAID";

    public static void main(String[] args) {
        textLength();
        textItems();
        textNumbers();
        textFault();
        laidText();
        laidHouses();
        p1NewObject();
        p2Write();
        p3Wipe();
        p4Fault();
        p5Lay();
        p6to9Questions();
        Bounds.end();
    }

    private static void faultDue(String text, int want) {
        Bounds.due("fault of " + text, Bounds.faultOf(text), want);
    }

    private static void layDue(String text, int want) {
        Bounds.due("lay of " + text, Bounds.layOf(text), want);
    }

    // ---- a TEXT

    private static void textLength() {
        Bounds.sentence(TEXT, "A TEXT is bytes (300 at most)", () -> {
            for (int n = 1; n <= 8; n++) {
                BothWould b = Bounds.written("x".repeat(300 - n));
                Bounds.due("write(" + n + ") behind " + (300 - n), b.write(n, 0), 300);
                b = Bounds.written("x".repeat(301 - n));
                Bounds.due("write(" + n + ") behind " + (301 - n), b.write(n, 0), FULL);
            }
        });
        Bounds.sentence(TEXT, "bytes (300 at most), ITEMS one behind the other", () -> {
            // The last ITEM ends with byte 299, and is read: it makes the RING.
            String most = "p1,10,0;p0,5,0;" + "r0;".repeat(94) + "r1;";
            BothWould b = Bounds.written(most);
            Bounds.due("fault of 300 bytes", b.fault(), NONE);
            Bounds.due("lay of 300 bytes", b.lay(), 2);
            Bounds.due("changes of a ring", b.count(1), 2);
            Bounds.due("an item that ends beyond 300", b.write(1, 'r'), FULL);
        });
    }

    private static void textItems() {
        Bounds.sentence(TEXT, "ITEMS one behind the other", () -> {
            faultDue("", NONE);
            faultDue(PERSON, NONE);
            faultDue(PERSON + PERSON, NONE);
            for (String between : new String[] {" ", ";", ",", "\n", "\0", "0"}) {
                faultDue(PERSON + between + PERSON, 7);
                faultDue(between + PERSON, 0);
                faultDue(PERSON + between, 7);
            }
        });
        Bounds.sentence(TEXT, "each a letter", () -> {
            for (char c = 0; c < 256; c++) {
                faultDue("r1;" + c + "0,1,0;", c == 'p' || c == 'l' ? NONE : 3);
                faultDue("r1;" + c + "1;", c == 'r' ? NONE : 3);
                faultDue("r1;" + c, 3);
            }
        });
        Bounds.sentence(TEXT, "parted by ,", () -> {
            for (char c = 0; c < 256; c++) {
                for (char letter : new char[] {'p', 'l'}) {
                    faultDue("r1;" + letter + "0" + c + "1,0;", c == ',' ? NONE : 3);
                    faultDue("r1;" + letter + "0,1" + c + "0;", c == ',' ? NONE : 3);
                }
            }
            faultDue("p0,0;", 0);
            faultDue("p0,0,0,0;", 0);
            faultDue("l0,1;", 0);
            faultDue("l0,1,0,0;", 0);
            faultDue("r0,0;", 0);
            faultDue("r;", 0);
        });
        Bounds.sentence(TEXT, "and ; (behind the last one, too)", () -> {
            for (String item : new String[] {"p0,10,0;", "l0,1,00;", "r1;"}) {
                String open = item.substring(0, item.length() - 1);
                for (char c = 0; c < 256; c++) {
                    faultDue("r1;" + open + c, c == ';' ? NONE : 3);
                }
                for (int k = 1; k <= open.length(); k++) {
                    faultDue("r1;" + item.substring(0, k), 3);
                }
                faultDue("r1;" + open + item, 3);
            }
        });
    }

    private static String[] waysToWrite(int number) {
        return number < 10 ? new String[] {"" + number, "0" + number} : new String[] {"" + number};
    }

    private static void textNumbers() {
        Bounds.sentence(TEXT, "numbers (one or two figures)", () -> {
            String[] shapes = {"p#,0,0;", "p0,#,0;", "p0,0,#;", "l#,1,0;", "l1,#,0;", "l0,1,#;", "r#;"};
            for (String shape : shapes) {
                faultDue("r1;" + shape.replace("#", "0"), NONE);
                faultDue("r1;" + shape.replace("#", "00"), NONE);
                faultDue("r1;" + shape.replace("#", ""), 3);
                faultDue("r1;" + shape.replace("#", "000"), 3);
                faultDue("r1;" + shape.replace("#", "-0"), 3);
                faultDue("r1;" + shape.replace("#", "+0"), 3);
                faultDue("r1;" + shape.replace("#", " 0"), 3);
                faultDue("r1;" + shape.replace("#", "0 "), 3);
                for (char c = 0; c < 256; c++) {
                    boolean figure = c >= '0' && c <= '9';
                    if (!figure) {
                        faultDue("r1;" + shape.replace("#", "" + c), 3);
                    }
                    // A ; behind one figure ends the ITEM.
                    if (!figure && c != ';') {
                        faultDue("r1;" + shape.replace("#", "0" + c), 3);
                    }
                }
            }
        });
        numbersUpTo("p#,0,0;", 5, "pB,W,K a PERSON whose BEST PLACE is B (0 to 5)");
        numbersUpTo("p0,#,0;", 20, "to whom each step from it costs W (0 to 20)");
        numbersUpTo("p0,0,#;", 4, "of KIND K (0 PLAIN, 1 WILLING, 2 GREEDY, 3 FOOL, 4 MEEK)");
        numbersUpTo("r#;", 1, "rR it is a RING (1) or a ROW (0;");
        Bounds.sentence(TEXT, "6 at most, 0, 1, ..", () -> {
            faultDue(PERSON.repeat(6), NONE);
            faultDue(PERSON.repeat(7), 42);
            faultDue(PERSON.repeat(8), 42);
            faultDue(PERSON.repeat(6) + "l0,1,50;r1;" + PERSON, 53);
            BothWould b = Bounds.laid("p0,0,0;p0,1,0;p0,2,0;p0,3,0;p0,4,0;p0,5,0;");
            for (int i = 0; i < 6; i++) {
                Bounds.due("W of " + i, b.person(i, 1), i);
            }
        });
        Bounds.sentence(TEXT, "lI,J,V PERSON I likes J (0 to 5, unlike)", () -> {
            for (int i = 0; i < 100; i++) {
                for (int j = 0; j < 100; j++) {
                    boolean right = i <= 5 && j <= 5 && i != j;
                    faultDue("l" + i + "," + j + ",50;", right ? NONE : 0);
                }
            }
            faultDue("l05,00,1;", NONE);
            faultDue("l05,5,1;", 0);
            faultDue("l0,00,1;", 0);
            faultDue("l06,1,1;", 0);
            faultDue("l1,06,1;", 0);
        });
        Bounds.sentence(TEXT, "beside by V less 50 (V 0 to 99;", () -> {
            for (int v = 0; v < 100; v++) {
                for (String number : waysToWrite(v)) {
                    BothWould b = Bounds.laid("p0,0,0;p0,0,0;l0,1," + number + ";");
                    Bounds.due("likes by " + number, b.likes(0, 1), v);
                    Bounds.due("worth by " + number, b.worth(0), 1000 + 100 + v - 50);
                }
            }
            faultDue("l0,1,100;", 0);
            faultDue("l0,1,099;", 0);
        });
        Bounds.sentence(TEXT, "50 without; the last one of each two)", () -> {
            BothWould b = Bounds.laid("l1,0,20;l0,1,10;p0,0,0;p0,0,0;p0,0,0;l0,1,99;l0,1,30;");
            Bounds.due("the last one", b.likes(0, 1), 30);
            Bounds.due("the other way round is another two", b.likes(1, 0), 20);
            Bounds.due("without", b.likes(0, 2), 50);
            Bounds.due("without", b.likes(2, 1), 50);
        });
        Bounds.sentence(TEXT, "a ROW (0; so without; the last one)", () -> {
            String[] rows = {"", "r0;", "r1;r0;", "r0;r1;r0;", "r1;r00;"};
            String[] rings = {"r1;", "r0;r1;", "r1;r0;r1;", "r0;r01;"};
            for (String r : rows) {
                Bounds.due("changes of a row by " + r, Bounds.laid(r + PERSON.repeat(3)).count(1), 2);
                Bounds.due("changes of a row by " + r, Bounds.laid(PERSON.repeat(3) + r).count(1), 2);
            }
            for (String r : rings) {
                Bounds.due("changes of a ring by " + r, Bounds.laid(r + PERSON.repeat(3)).count(1), 3);
                Bounds.due("changes of a ring by " + r, Bounds.laid(PERSON.repeat(3) + r).count(1), 3);
            }
        });
    }

    private static void numbersUpTo(String shape, int most, String quote) {
        Bounds.sentence(TEXT, quote, () -> {
            for (int number = 0; number < 100; number++) {
                for (String w : waysToWrite(number)) {
                    faultDue(PERSON + shape.replace("#", w), number <= most ? NONE : 7);
                }
            }
        });
    }

    private static void textFault() {
        Bounds.sentence(TEXT, "FAULT: the place of the first byte of the first ITEM that is not so.", () -> {
            faultDue("x", 0);
            faultDue("p9,0,0;" + PERSON + "x", 0);
            faultDue(PERSON + "r1;p0,0,9;p9,0,0;", 10);
            faultDue(PERSON + "l0,1,50;l0,0,50;", 15);
            faultDue("p0,10,0;" + "r1;".repeat(97) + "r", 299);
            faultDue("p0,10,0;" + "r1;".repeat(97) + "x", 299);
            faultDue("r1;".repeat(99) + "r1,", 297);
            faultDue("r1;".repeat(99) + "r2;", 297);
            faultDue("r1;".repeat(100), NONE);
        });
    }

    // ---- LAID

    private static void laidText() {
        Bounds.sentence(LAID, "LAID is a TEXT without FAULT", () -> {
            layDue(PERSON + PERSON, 2);
            layDue(PERSON + PERSON + "x", NO);
            layDue("x" + PERSON + PERSON, NO);
            layDue(PERSON + PERSON + "r1", NO);
            layDue(PERSON.repeat(7), NO);
        });
        Bounds.sentence(LAID, "of 2 PERSONS at least", () -> {
            layDue("", NO);
            layDue("r1;", NO);
            layDue("l0,1,50;", NO);
            layDue(PERSON, NO);
            layDue("r1;" + PERSON, NO);
            for (int n = 2; n <= 6; n++) {
                layDue(PERSON.repeat(n), n);
                layDue(PERSON.repeat(n) + "r1;", n);
            }
        });
        Bounds.sentence(LAID, "all that are told of in it below how many there are", () -> {
            for (int n = 2; n <= 5; n++) {
                String all = PERSON.repeat(n);
                layDue(all + "l" + (n - 1) + ",0,60;", n);
                layDue(all + "l0," + (n - 1) + ",60;", n);
                layDue(all + "l" + n + ",0,60;", NO);
                layDue(all + "l0," + n + ",60;", NO);
                layDue("l" + n + ",0,50;" + all, NO);
                layDue(all + "l0," + n + ",50;l0,1,60;", NO);
            }
            layDue(PERSON.repeat(6) + "l5,0,60;l0,5,60;", 6);
        });
        Bounds.sentence(LAID, "PLACES, too", () -> {
            for (int n = 2; n <= 6; n++) {
                for (int i = 0; i < n; i++) {
                    String ahead = PERSON.repeat(i);
                    String behind = PERSON.repeat(n - 1 - i);
                    layDue(ahead + "p" + (n - 1) + ",0,0;" + behind, n);
                    if (n < 6) {
                        layDue(ahead + "p" + n + ",0,0;" + behind, NO);
                        layDue(ahead + "p5,0,0;" + behind, NO);
                    }
                }
            }
        });
        Bounds.sentence(LAID, "(NO else; at first p1,5,0;p0,5,0;)", () -> {
            BothWould b = Bounds.laid("p1,5,0;p0,5,0;");
            b.wipe();
            Bounds.same("a new object", Bounds.shown(Bounds.fresh()), Bounds.shown(b));
        });
    }

    private static void laidHouses() {
        Bounds.sentence(LAID, "There are as many PLACES, 0, 1, .. as PERSONS; PERSON i is at PLACE i at first.", () -> {
            for (int n = 2; n <= 6; n++) {
                BothWould b = Bounds.laid(PERSON.repeat(n));
                for (int i = 0; i < n; i++) {
                    Bounds.due("at(" + i + ")", b.at(i), i);
                    Bounds.due("person(" + i + ", 3)", b.person(i, 3), i);
                }
                Bounds.due("at(" + n + ")", b.at(n), BAD);
            }
        });
        Bounds.sentence(LAID, "Beside x are x less 1 and x and 1, in a ROW if there are such ones", () -> {
            for (int n = 2; n <= 6; n++) {
                Bounds.due("beside the first of " + n, beside(n, 0, false), 1 << 1);
                Bounds.due("beside the last of " + n, beside(n, n - 1, false), 1 << n - 2);
                for (int x = 1; x < n - 1; x++) {
                    Bounds.due("beside " + x + " of " + n, beside(n, x, false), 1 << x - 1 | 1 << x + 1);
                }
            }
        });
        Bounds.sentence(LAID, "in a RING modulo how many (", () -> {
            for (int n = 3; n <= 6; n++) {
                Bounds.due("beside the first of " + n, beside(n, 0, true), 1 << n - 1 | 1 << 1);
                Bounds.due("beside the last of " + n, beside(n, n - 1, true), 1 << n - 2 | 1 << 0);
                for (int x = 1; x < n - 1; x++) {
                    Bounds.due("beside " + x + " of " + n, beside(n, x, true), 1 << x - 1 | 1 << x + 1);
                }
            }
        });
        Bounds.sentence(LAID, "(of two each is beside the other once)", () -> {
            for (int v = 0; v < 100; v += 33) {
                BothWould b = Bounds.laid("p0,0,4;p0,0,4;r1;l0,1," + v + ";l1,0,60;");
                Bounds.due("worth(0) by " + v, b.worth(0), 1050 + v);
                Bounds.due("worth(1)", b.worth(1), 1110);
                b.change(1);
                Bounds.due("worth(0) at the other place", b.worth(0), 1050 + v);
                Bounds.due("the sum", b.best(-1), 10000 + 50 + v + 110);
            }
        });
        Bounds.sentence(LAID, "From x to y it is FAR as many steps, in a RING the shorter way.", () -> {
            int[][] ring = {{0, 1}, {0, 1, 1}, {0, 1, 2, 1}, {0, 1, 2, 2, 1}, {0, 1, 2, 3, 2, 1}};
            for (int n = 2; n <= 6; n++) {
                for (int x = 0; x < n; x++) {
                    for (int y = 0; y < n; y++) {
                        String text = PERSON.repeat(x) + "p" + y + ",1,0;" + PERSON.repeat(n - 1 - x);
                        int steps = x < y ? y - x : x - y;
                        Bounds.due("row of " + n + " from " + x + " to " + y, Bounds.laid(text).worth(x), 1100 - steps);
                        Bounds.due("ring of " + n + " from " + x + " to " + y, Bounds.laid(text + "r1;").worth(x),
                            1100 - ring[n - 2][steps]);
                    }
                }
            }
        });
        Bounds.sentence(LAID, "WORTH of a PERSON is 100, less W times how FAR he is from B, and by how much he likes those beside him.",
            () -> {
                Bounds.due("the least: 100 - 4 * 20 - 100", Bounds.laid("p0,0,0;p5,20,0;" + PERSON.repeat(4)
                    + "l1,0,0;l1,2,0;").worth(1), 920);
                Bounds.due("the most: 100 + 98", Bounds.laid(PERSON + "p1,20,0;" + PERSON + "l1,0,99;l1,2,99;").worth(1), 1198);
                Bounds.due("5 steps of 20", Bounds.laid("p5,20,0;" + PERSON.repeat(5)).worth(0), 1000);
                Bounds.due("5 steps of 0", Bounds.laid("p5,0,0;" + PERSON.repeat(5)).worth(0), 1100);
                Bounds.due("no step of 20", Bounds.laid("p0,20,0;" + PERSON.repeat(5)).worth(0), 1100);
                Bounds.due("whom others like does not matter", Bounds.laid(PERSON + PERSON + "l1,0,99;").worth(0), 1100);
                Bounds.due("who is not beside does not matter", Bounds.laid(PERSON.repeat(3) + "l0,2,99;").worth(0), 1100);
            });
    }

    // Who is beside PERSON x at PLACE x: he likes each J by another power of 2, so his WORTH tells.
    private static int beside(int n, int x, boolean ring) {
        StringBuilder text = new StringBuilder(PERSON.repeat(n) + (ring ? "r1;" : ""));
        for (int j = 0; j < n; j++) {
            if (j != x) {
                text.append("l" + x + "," + j + "," + (50 + (1 << j)) + ";");
            }
        }
        return Bounds.laid(text.toString()).worth(x) - 1100;
    }

    // ---- promises

    private static void p1NewObject() {
        Bounds.sentence("1: A new object", "at first p1,5,0;p0,5,0;", () -> {
            BothWould b = Bounds.fresh();
            int[] counts = {2, 1, 1, 0, 0, 0, 0, 0};
            for (int what = 0; what < 8; what++) {
                Bounds.due("count(" + what + ")", b.count(what), counts[what]);
            }
            int[][] people = {{1, 5, 0, 0}, {0, 5, 0, 1}};
            for (int i = 0; i < 2; i++) {
                for (int what = 0; what < 4; what++) {
                    Bounds.due("person(" + i + ", " + what + ")", b.person(i, what), people[i][what]);
                }
            }
            Bounds.due("likes", b.likes(0, 1), 50);
            Bounds.due("likes", b.likes(1, 0), 50);
            Bounds.dueRow("nothing", b, "0 1");
        });
        Bounds.sentence("1: A new object", "As told.", () -> {
            Bounds.unchanged("undo of nothing", Bounds::fresh, BothWould::undo, NO);
            Bounds.unchanged("back of nothing", Bounds::fresh, BothWould::back, NO);
            Bounds.unchanged("lay of no text", Bounds::fresh, BothWould::lay, NO);
            Bounds.unchanged("fault of no text", Bounds::fresh, BothWould::fault, NONE);
            Bounds.unchanged("judge of no row", Bounds::fresh, BothWould::judge, NONE);
            Bounds.unchanged("wipe of no text", Bounds::fresh, BothWould::wipe, 0);
            Bounds.unchanged("noRow of no row", Bounds::fresh, BothWould::noRow, 0);
            Bounds.unchanged("forget of nothing", Bounds::fresh, BothWould::forget, 0);
        });
    }

    private static void p2Write() {
        Bounds.sentence("2: write", "n bytes (1 to 8) of v", () -> {
            Bounds.between("write", Bounds::busy, (b, v) -> b.write(v[0], 0x7031), Bounds.ends(1, 8));
            Bounds.between("write", Bounds::fresh, (b, v) -> b.write(v[0], -1L), Bounds.ends(1, 8));
        });
        Bounds.sentence("2: write", "of v, the highest first", () -> {
            long v = 0x70312c352c303bL;
            for (int n = 1; n <= 7; n++) {
                // The last n bytes of "p1,5,0;" behind the others, by one call.
                BothWould b = Bounds.written("p1,5,0;".substring(0, 7 - n));
                Bounds.due("write(" + n + ")", b.write(n, v), 7);
                Bounds.due("fault", b.fault(), NONE);
            }
            BothWould b = Bounds.fresh();
            Bounds.due("write of 8", b.write(8, 0x70302c31302c343bL), 8);
            Bounds.due("no fault of 8", b.fault(), NONE);
            Bounds.due("bytes of 128 and more", b.write(8, -1L), 16);
            Bounds.due("bytes of 128 and more are no items", b.fault(), 8);
            b = Bounds.written(PERSON + PERSON);
            Bounds.due("bits above the n bytes are not written", b.write(3, 0xffffffffff72313bL), 17);
            Bounds.due("lay", b.lay(), 2);
            Bounds.due("ring", b.count(1), 2);
        });
        Bounds.sentence("2: write", "come behind THE TEXT: how long it is.", () -> {
            BothWould b = Bounds.fresh();
            int length = 0;
            for (int n = 1; n <= 8; n++) {
                length += n;
                Bounds.due("write(" + n + ")", b.write(n, 0), length);
                Bounds.due("bytes", b.count(7), length);
            }
        });
        Bounds.sentence("2: write", "how long it is. BAD; FULL.", () -> {
            for (int n = 1; n <= 8; n++) {
                int many = n;
                Bounds.unchanged("write(" + n + ") behind 300", Bounds::full, b -> b.write(many, 0x7031), FULL);
                Bounds.unchanged("write(" + n + ") behind " + (301 - n),
                    () -> Bounds.written(PERSON + PERSON + "r1;".repeat(90) + "r01;;;;;;;;;;;;;".substring(0, 17 - many)),
                    b -> b.write(many, 0x3b3b3b3b3b3b3b3bL), FULL);
            }
            Bounds.between("write behind 300", Bounds::full, (b, v) -> b.write(v[0], 0), Bounds.ends(1, 8));
        });
    }

    private static void p3Wipe() {
        Bounds.sentence("3: wipe", "THE TEXT is empty: how long it was.", () -> {
            BothWould b = Bounds.fresh();
            Bounds.due("wipe of none", b.wipe(), 0);
            b.write(1, 'p');
            Bounds.due("wipe of one", b.wipe(), 1);
            Bounds.due("wipe again", b.wipe(), 0);
            b = Bounds.full();
            Bounds.due("wipe of 300", b.wipe(), 300);
            Bounds.due("bytes", b.count(7), 0);
            Bounds.due("no fault", b.fault(), NONE);
            Bounds.due("no text is laid", b.lay(), NO);
            Bounds.due("room again", b.write(8, 0), 8);
            b.wipe();
            Bounds.write(b, PERSON + PERSON);
            Bounds.due("what stood there is gone", b.lay(), 2);
            Bounds.due("what stood there is gone", b.count(1), 1);
            // Nor is what stood there read behind the end of a shorter TEXT.
            String whole = "p0,10,4;l0,1,99;r1;";
            for (int k = 0; k <= whole.length(); k++) {
                b = Bounds.written(whole);
                Bounds.due("fault of " + whole, b.fault(), NONE);
                b.wipe();
                Bounds.write(b, whole.substring(0, k));
                int begun = k < 8 ? 0 : k < 16 ? 8 : 16;
                boolean ends = k == 0 || k == 8 || k == 16 || k == 19;
                Bounds.due("fault of " + whole.substring(0, k) + " behind a wipe", b.fault(), ends ? NONE : begun);
            }
        });
        Bounds.sentence("3: wipe", "THE TEXT is empty", () -> {
            // All but THE TEXT stays.
            BothWould wiped = Bounds.busy();
            Bounds.due("wipe", wiped.wipe(), 32);
            BothWould other = Bounds.busy();
            other.wipe();
            other.write(1, 'x');
            other.wipe();
            Bounds.same("wipe", Bounds.shown(wiped), Bounds.shown(other));
            BothWould b = Bounds.busy();
            b.wipe();
            int[] counts = {3, 2, 1, 3, 2, 1, 1, 0};
            for (int what = 0; what < 8; what++) {
                Bounds.due("count(" + what + ")", b.count(what), counts[what]);
            }
            Bounds.dueRow("wipe", b, "1 0 2");
            Bounds.due("W of 2", b.person(2, 1), 3);
        });
    }

    private static void p4Fault() {
        Bounds.sentence("4: fault", "FAULT. NONE.", () -> {
            Bounds.unchanged("fault of none", Bounds::fresh, BothWould::fault, NONE);
            Bounds.unchanged("fault of 300 bytes", Bounds::full, BothWould::fault, NONE);
            Bounds.unchanged("fault", Bounds::busy, BothWould::fault, NONE);
            faultDue(PERSON, NONE);
            faultDue("l5,4,50;", NONE);
            faultDue("p5,0,0;p5,0,0;", NONE);
        });
        Bounds.sentence("4: fault", "the first ITEM that is not so", () -> {
            Bounds.unchanged("fault at 0", () -> Bounds.written("x"), BothWould::fault, 0);
            Bounds.unchanged("fault behind all", () -> Bounds.written("p0,0,0;p0,0,0;p"), BothWould::fault, 14);
            BothWould b = Bounds.written("p0,0,0;p");
            Bounds.due("asked", b.fault(), 7);
            Bounds.due("asked again", b.fault(), 7);
            b.write(6, 0x302c302c303bL);
            Bounds.due("the item is whole now", b.fault(), NONE);
        });
    }

    private static void p5Lay() {
        Bounds.sentence("5: lay", "LAID: how many PERSONS; all at their first PLACES, no told row, nothing SEEN, UNDONE, KEPT.", () -> {
            BothWould b = Bounds.full();
            Bounds.due("lay", b.lay(), 3);
            int[] counts = {3, 3, -9, 0, 0, 0, 0, 300};
            for (int what = 0; what < 8; what++) {
                if (what != 2) {
                    Bounds.due("count(" + what + ")", b.count(what), counts[what]);
                }
            }
            Bounds.dueRow("lay", b, "0 1 2");
            Bounds.due("nothing to be undone", b.undo(), NO);
            Bounds.due("nothing kept", b.back(), NO);
            Bounds.due("nothing told", b.judge(), NONE);
            Bounds.due("all fit", b.fits(0, 0), 3);
            b = Bounds.full();
            b.lay();
            BothWould new3 = Bounds.laid("p1,10,0;p02,3,2;p2,20,4;l2,0,40;" + "r0;".repeat(88) + "r01;");
            Bounds.same("lay", Bounds.shown(b), Bounds.shown(new3));
        });
        Bounds.sentence("5: lay", "how many PERSONS; all at their first PLACES", () -> {
            // From six to two and back: nothing of the one is left in the other.
            String six = "p5,20,3;p4,20,3;p3,20,3;p2,20,3;p1,20,3;p0,20,3;l0,1,99;l1,0,0;r1;";
            BothWould b = Bounds.laid(six);
            b.rests(-1);
            b.wipe();
            Bounds.write(b, "p1,5,0;p0,5,0;");
            Bounds.due("two", b.lay(), 2);
            b.wipe();
            Bounds.same("lay of two", Bounds.shown(b), Bounds.shown(Bounds.fresh()));
            // Nor is anything left of what was only asked about, or could not be laid.
            for (String other : new String[] {six, "p5,20,3;r1;l4,5,99;", "r1;l0,1,99;l1,0,99;", "l0,1,0;r1;x"}) {
                b = Bounds.written(other);
                b.fault();
                b.lay();
                b.fault();
                b.wipe();
                Bounds.write(b, "p1,5,0;p0,5,0;");
                Bounds.due("two behind " + other, b.lay(), 2);
                b.wipe();
                Bounds.same("lay of two behind " + other, Bounds.shown(b), Bounds.shown(Bounds.fresh()));
            }
            b = Bounds.fresh();
            b.rests(-1);
            Bounds.write(b, six);
            Bounds.due("six", b.lay(), 6);
            Bounds.due("rests of six", b.rests(-1), 720);
            Bounds.due("laid again", b.lay(), 6);
        });
        Bounds.sentence("5: lay", "KEPT. NO.", () -> {
            String[] no = {"", PERSON, "x", PERSON + PERSON + "x", PERSON + "p2,0,0;", PERSON + PERSON + "l0,2,50;",
                PERSON + PERSON + "l2,0,50;", "r1;", PERSON.repeat(7), PERSON + PERSON + "r1"};
            for (String text : no) {
                Bounds.unchanged("lay of " + text, () -> rewritten(Bounds.busy(), text), BothWould::lay, NO);
                Bounds.unchanged("lay of " + text, () -> rewritten(Bounds.full(), text), BothWould::lay, NO);
            }
        });
    }

    private static BothWould rewritten(BothWould b, String text) {
        b.wipe();
        Bounds.write(b, text);
        return b;
    }

    private static void p6to9Questions() {
        Bounds.sentence("6: person", "Of a PERSON: BEST PLACE (what = 0), W (1), KIND (2), the PLACE where he is (3). BAD.", () ->
            Bounds.sizes((state, n, ring) ->
                Bounds.between("person", state, (b, v) -> b.person(v[0], v[1]), Bounds.ends(0, n - 1), Bounds.ends(0, 3))));
        Bounds.sentence("7: likes", "By how much a PERSON likes another one, and 50. BAD.", () ->
            Bounds.sizes((state, n, ring) -> {
                Bounds.between("likes of 0", state, (b, v) -> b.likes(0, v[0]), Bounds.ends(1, n - 1));
                Bounds.between("likes of the last", state, (b, v) -> b.likes(n - 1, v[0]), Bounds.ends(0, n - 2));
                Bounds.between("likes for 0", state, (b, v) -> b.likes(v[0], 0), Bounds.ends(1, n - 1));
                Bounds.between("likes for the last", state, (b, v) -> b.likes(v[0], n - 1), Bounds.ends(0, n - 2));
            }));
        Bounds.sentence("8: worth", "WORTH now and 1000. BAD.", () ->
            Bounds.sizes((state, n, ring) ->
                Bounds.between("worth", state, (b, v) -> b.worth(v[0]), Bounds.ends(0, n - 1))));
        Bounds.sentence("9: at", "Who is at a PLACE. BAD.", () ->
            Bounds.sizes((state, n, ring) ->
                Bounds.between("at", state, (b, v) -> b.at(v[0]), Bounds.ends(0, n - 1))));
        Bounds.sentence("6: person", "the PLACE where he is (3)", () -> {
            BothWould b = Bounds.full();
            Bounds.dueRow("eleven changes", b, "0 2 1");
            Bounds.due("person(1, 3)", b.person(1, 3), 2);
            Bounds.due("person(2, 3)", b.person(2, 3), 1);
        });
        Bounds.sentence("7: likes", "likes another one, and 50", () -> {
            BothWould b = Bounds.laid(PERSON.repeat(3) + "l0,1,0;l1,0,99;");
            Bounds.due("the least", b.likes(0, 1), 0);
            Bounds.due("the most", b.likes(1, 0), 99);
            for (int i = 0; i < 3; i++) {
                Bounds.due("himself", b.likes(i, i), BAD);
            }
        });
        Bounds.sentence("8: worth", "WORTH now", () -> {
            BothWould b = Bounds.laid("p0,20,4;p0,0,4;l0,1,40;");
            Bounds.due("worth as laid", b.worth(0), 1090);
            b.change(0);
            Bounds.due("worth behind a change", b.worth(0), 1070);
            b.undo();
            Bounds.due("worth behind its undoing", b.worth(0), 1090);
        });
    }
}
