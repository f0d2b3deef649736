import java.util.List;

// The boundary cases of REST and of how one comes to it, of the BEST, and of promises 17 to 23.
public final class RestBoundsTest {
    private static final int BAD = Bounds.BAD, NONE = Bounds.NONE;
    private static final String REST = "REST";
    // In a RING of three 0 and 2 change by the last CHANGE alone; 1 is a FOOL.
    private static final String ROUND_THE_END = "p2,1,0;p1,20,3;p0,1,0;r1;";
    // The MEEK change for ever at PLACES 0 and 1; with the FOOL between them there would be REST.
    private static final String REST_OUT_OF_REACH = "p0,0,4;p0,0,4;p0,0,3;";
    // 0 goes to PLACE 2 by two CHANGES; only then the MEEK ones change for ever.
    private static final String CIRCLE_LATER = "p2,5,0;p0,0,4;p0,0,4;";
    // By CHANGE 0 there is REST, 0 standing between the MEEK ones; by CHANGE 1 there is a way without end.
    private static final String END_OR_NONE = "p1,5,0;p0,0,4;p0,0,4;";
    // At REST as laid; a ROUND leads to 2 0 1, and CHANGES 0 and 1 back to the first of all arrangements.
    private static final String BACK_TO_THE_FIRST = "p2,4,0;p2,2,1;p2,0,1;l1,0,58;l0,1,44;";
    // Long ways, found by drawing many texts.
    private static final String LONG_GOING_ON = "p4,2,4;p1,1,0;p0,11,0;p3,0,1;p1,1,0;p2,1,1;l3,0,47;l2,5,46;l3,2,10;l2,1,13;"
        + "l1,3,46;l0,5,38;l5,1,54;l2,4,46;l3,0,45;l3,1,64;l3,2,22;r1;";
    private static final String LONG_LONGEST = "p4,3,4;p3,2,0;p0,16,1;p0,9,0;p2,2,1;p2,0,0;l2,3,0;l2,4,55;l1,0,69;l2,1,51;l5,0,17;"
        + "l3,0,80;l1,2,64;l0,4,49;l5,1,46;l1,4,31;l4,0,66;l1,2,45;l0,3,47;l4,1,82;l2,5,0;r1;";
    private static final String LONG_SHORTEST = "p2,0,0;p0,1,1;p0,1,4;p3,2,0;p5,7,4;p5,1,1;l2,4,48;l3,5,45;l2,5,55;l3,1,72;l0,5,47;"
        + "l3,2,70;l0,5,79;l1,0,59;l5,2,19;l4,5,45;l3,2,48;l5,3,52;l4,3,45;l5,2,48;r1;";
    private static final String LONG_COMES = "p0,18,1;p1,3,4;p3,2,1;p3,4,1;p1,2,0;p0,3,4;l4,5,48;l2,1,94;l1,4,54;l2,5,21;l3,4,83;"
        + "l5,2,71;l3,0,38;l0,1,68;l0,3,49;l5,3,54;l4,1,82;l1,4,50;l2,4,45;l4,5,49;l4,2,47;r1;";
    private static final String[] PEOPLE = {Bounds.TWO_WAYS, Bounds.ONLY_ROUND, ROUND_THE_END, REST_OUT_OF_REACH, END_OR_NONE,
        "p1,5,0;p0,5,0;", "p1,5,1;p0,5,2;r1;", "p0,2,0;p1,0,4;p2,3,0;", "p0,1,0;p2,1,0;p1,1,4;", "p2,2,4;p0,1,0;p2,2,1;",
        "p2,2,1;p0,1,1;p0,2,4;", "p2,0,4;p2,3,1;p0,3,0;", "p2,1,1;p2,0,4;p0,3,1;", "p2,2,0;p2,2,4;p0,4,1;p3,3,0;l0,1,55;l1,3,47;r1;",
        "p0,3,4;p0,7,0;p1,3,0;p2,3,1;l2,0,55;", "p3,20,2;p3,9,1;p0,10,0;p1,1,4;l0,1,0;l1,0,99;l2,3,10;r1;"};

    public static void main(String[] args) {
        atRest();
        goingOn();
        longest();
        shortest();
        comes();
        bars();
        best();
        Bounds.end();
    }

    private static void dueAll(String call, BothWould b, Bounds.Numbers question, int want) {
        for (int p = -1; p < b.count(0); p++) {
            Bounds.due(call + " " + p, question.on(b, new int[] {p}), want);
        }
    }

    // ---- RESTS

    private static void atRest() {
        Bounds.sentence(REST, "AT REST is an arrangement, if no CHANGE SUITS.", () -> {
            // A ROUND that suits does not hinder it.
            BothWould b = Bounds.laid(Bounds.ONLY_ROUND);
            Bounds.due("the round suits", b.suits(0, true), 1);
            Bounds.due("no change suits", b.count(2), 0);
            Bounds.due("rests at 0", b.rests(0), 0);
            Bounds.due("rests at 1", b.rests(1), 1);
            Bounds.due("goingOn", b.goingOn(-1), 0);
            Bounds.due("longest", b.longest(), 0);
            Bounds.due("shortest", b.shortest(0), 0);
            // In a RING the last CHANGE counts, too.
            b = Bounds.laid(ROUND_THE_END);
            Bounds.due("the last alone suits", b.count(2), 1);
            Bounds.due("it is not at rest", b.goingOn(-1), 1);
        });
        Bounds.sentence(REST, "RESTS: of all arrangements how many are;", () -> {
            int[] all = {2, 6, 24, 120, 720};
            Bounds.sizes((meek, n, ring) -> {
                Bounds.due("all of " + n, Bounds.laid(Bounds.fools(n, ring)).rests(-1), all[n - 2]);
                Bounds.due("none of " + n, meek.get().rests(-1), 0);
            });
            for (String text : PEOPLE) {
                int rests = 0;
                for (int[] who : Bounds.arrangements(people(text))) {
                    rests += Bounds.laid(Bounds.seated(text, who)).count(2) == 0 ? 1 : 0;
                }
                Bounds.due("rests of " + text, Bounds.laid(text).rests(-1), rests);
            }
        });
        Bounds.sentence(REST, "who is at a PLACE in the first (by who is at PLACE 0, then 1, ..); none.", () -> {
            Bounds.sizes((meek, n, ring) -> {
                for (int p = 0; p < n; p++) {
                    Bounds.due("the first of all " + n, Bounds.laid(Bounds.fools(n, ring)).rests(p), p);
                    Bounds.due("none of " + n, meek.get().rests(p), NONE);
                }
            });
            BothWould again = Bounds.laid(Bounds.fools(3, false));
            Bounds.due("the first of all", again.rests(2), 2);
            again.wipe();
            Bounds.write(again, Bounds.MEEK_THREE);
            again.lay();
            Bounds.due("none, though there was one in what was laid ahead", again.rests(2), NONE);
            for (String text : PEOPLE) {
                int[] first = firstRest(text);
                for (int p = 0; p < people(text); p++) {
                    Bounds.due("rests(" + p + ") of " + text, Bounds.laid(text).rests(p), first == null ? NONE : first[p]);
                }
            }
        });
        Bounds.sentence("17: rests", "RESTS: how many (p = -1), who is at a PLACE in the first. NONE; BAD.", () -> {
            Bounds.sizes((meek, n, ring) ->
                Bounds.between("rests, none", meek, (b, v) -> b.rests(v[0]), Bounds.ends(-1, n - 1)));
            Bounds.between("rests", Bounds::busy, (b, v) -> b.rests(v[0]), Bounds.ends(-1, 2));
            Bounds.between("rests of all", () -> Bounds.laid(Bounds.fools(2, true)), (b, v) -> b.rests(v[0]), Bounds.ends(-1, 1));
            Bounds.unchanged("rests", Bounds::busy, b -> b.rests(-1), 2);
            Bounds.unchanged("rests, none", Bounds::full, b -> b.rests(-1), 0);
            Bounds.unchanged("rests, none", Bounds::full, b -> b.rests(0), NONE);
            Bounds.unchanged("rests, none", Bounds::full, b -> b.rests(2), NONE);
        });
    }

    private static int people(String text) {
        return text.length() - text.replace("p", "").length();
    }

    private static int[] firstRest(String text) {
        for (int[] who : Bounds.arrangements(people(text))) {
            if (Bounds.laid(Bounds.seated(text, who)).count(2) == 0) {
                return who;
            }
        }
        return null;
    }

    // ---- GOING ON

    private static void goingOn() {
        Bounds.sentence(REST, "GOING ON the lowest CHANGE that SUITS is done again and again: how many till it is AT REST; who is at a PLACE then;",
            () -> {
                goOnByHand(Bounds.TWO_WAYS, 2);
                goOnByHand(ROUND_THE_END, 1);
                goOnByHand(END_OR_NONE, 1);
                goOnByHand(Bounds.fools(6, true), 0);
                goOnByHand("p5,1,0;p5,1,0;p5,1,0;p0,1,0;p0,1,0;p0,1,0;", 9);
                goOnByHand(LONG_GOING_ON, 31);
            });
        Bounds.sentence(REST, "none (not in 1000).", () -> {
            Bounds.sizes((meek, n, ring) -> dueAll("goingOn", meek.get(), (b, v) -> b.goingOn(v[0]), NONE));
            BothWould b = Bounds.laid(CIRCLE_LATER);
            dueAll("goingOn, a circle later", b, (c, v) -> c.goingOn(v[0]), NONE);
            b.change(0);
            b.change(1);
            Bounds.dueRow("two changes", b, "1 2 0");
            dueAll("goingOn, in the circle", b, (c, v) -> c.goingOn(v[0]), NONE);
            dueAll("goingOn, rest out of reach", Bounds.laid(REST_OUT_OF_REACH), (c, v) -> c.goingOn(v[0]), NONE);
        });
        Bounds.sentence("18: goingOn", "GOING ON: how many (p = -1), who is at a PLACE then. NONE; BAD.", () -> {
            Bounds.sizes((meek, n, ring) ->
                Bounds.between("goingOn, none", meek, (b, v) -> b.goingOn(v[0]), Bounds.ends(-1, n - 1)));
            Bounds.between("goingOn", Bounds::busy, (b, v) -> b.goingOn(v[0]), Bounds.ends(-1, 2));
            Bounds.between("goingOn at rest", Bounds::resting, (b, v) -> b.goingOn(v[0]), Bounds.ends(-1, 2));
            Bounds.unchanged("goingOn", Bounds::busy, b -> b.goingOn(-1), 1);
            Bounds.unchanged("goingOn", Bounds::busy, b -> b.goingOn(2), 0);
            Bounds.unchanged("goingOn at rest", Bounds::resting, b -> b.goingOn(-1), 0);
            Bounds.unchanged("goingOn at rest", Bounds::resting, b -> b.goingOn(1), 2);
            Bounds.unchanged("goingOn, none", Bounds::full, b -> b.goingOn(-1), NONE);
            Bounds.unchanged("goingOn, none", Bounds::full, b -> b.goingOn(0), NONE);
        });
    }

    private static int lowestThatSuits(BothWould b) {
        int changes = b.count(1);
        for (int x = 0; x < changes; x++) {
            if (b.suits(x, false) == 1) {
                return x;
            }
        }
        return -1;
    }

    private static void goOnByHand(String text, int many) {
        BothWould b = Bounds.laid(text);
        int told = b.goingOn(-1);
        StringBuilder end = new StringBuilder();
        for (int p = 0; p < b.count(0); p++) {
            end.append(p == 0 ? "" : " ").append(b.goingOn(p));
        }
        int steps = 0;
        for (int x = lowestThatSuits(b); x >= 0 && steps < 40; x = lowestThatSuits(b)) {
            b.change(x);
            steps++;
        }
        Bounds.due("goingOn of " + text, told, many);
        Bounds.due("by hand of " + text, steps, many);
        Bounds.dueRow("by hand of " + text, b, end.toString());
    }

    // ---- LONGEST, SHORTEST

    private static void longest() {
        Bounds.sentence(REST, "LONGEST: of all ways to do CHANGES that SUIT till none does how many at most;", () -> {
            Bounds.due("at rest", Bounds.laid(Bounds.fools(6, true)).longest(), 0);
            Bounds.due("at rest", Bounds.resting().longest(), 0);
            longestByHand(Bounds.TWO_WAYS, 2);
            longestByHand(ROUND_THE_END, 1);
            longestByHand(LONG_LONGEST, 36);
            BothWould b = Bounds.laid(BACK_TO_THE_FIRST);
            Bounds.due("at rest as laid", b.longest(), 0);
            b.round(0);
            Bounds.dueRow("a round", b, "2 0 1");
            Bounds.due("back to the first of all", b.longest(), 2);
        });
        Bounds.sentence(REST, "none (there is a way without end).", () -> {
            Bounds.sizes((meek, n, ring) -> Bounds.due("longest of " + n, meek.get().longest(), NONE));
            BothWould b = Bounds.laid(END_OR_NONE);
            Bounds.due("an end, too", b.shortest(0), 1);
            Bounds.due("a way without end", b.longest(), NONE);
            b.change(0);
            Bounds.due("it is left behind", b.longest(), 0);
            b.undo();
            Bounds.due("it is there again", b.longest(), NONE);
            Bounds.due("a circle later", Bounds.laid(CIRCLE_LATER).longest(), NONE);
            Bounds.due("rest out of reach", Bounds.laid(REST_OUT_OF_REACH).longest(), NONE);
        });
        Bounds.sentence("19: longest", "LONGEST. NONE.", () -> {
            Bounds.unchanged("longest", Bounds::fresh, BothWould::longest, 1);
            Bounds.unchanged("longest", Bounds::busy, BothWould::longest, 1);
            Bounds.unchanged("longest at rest", Bounds::resting, BothWould::longest, 0);
            Bounds.unchanged("longest, none", Bounds::full, BothWould::longest, NONE);
        });
    }

    // Behind the best CHANGE there is one less to do, and behind none there is more.
    private static void longestByHand(String text, int many) {
        int[] way = new int[many];
        for (int k = 0; k <= many; k++) {
            BothWould b = behind(text, way, k);
            Bounds.due("longest behind " + k + " of " + text, b.longest(), many - k);
            int most = -1;
            for (int x = 0; x < b.count(1); x++) {
                if (b.change(x) >= 0) {
                    int behind = b.longest();
                    b.undo();
                    if (behind > most && k < many) {
                        way[k] = x;
                    }
                    most = Math.max(most, behind);
                }
            }
            Bounds.due("longest behind " + (k + 1) + " of " + text, most, many - k - 1);
        }
    }

    private static void shortest() {
        Bounds.sentence(REST, "SHORTEST: how many at least;", () -> {
            Bounds.due("at rest", Bounds.laid(Bounds.fools(6, true)).shortest(0), 0);
            Bounds.due("at rest", Bounds.resting().shortest(0), 0);
            shortestByHand(Bounds.TWO_WAYS, 1);
            shortestByHand(ROUND_THE_END, 1);
            shortestByHand(LONG_SHORTEST, 45);
        });
        Bounds.sentence(REST, "the first CHANGE (the lowest of such ways);", () -> {
            Bounds.due("not the lowest that suits", Bounds.laid(Bounds.TWO_WAYS).shortest(1), 1);
            Bounds.due("the lowest of two", Bounds.laid("p1,1,0;p0,1,0;p3,1,0;p2,1,0;").shortest(1), 0);
            Bounds.due("the last of a ring", Bounds.laid(ROUND_THE_END).shortest(1), 2);
            Bounds.due("of a ring of two both", Bounds.laid("p1,1,0;p0,1,0;r1;").shortest(1), 0);
            BothWould b = Bounds.laid(BACK_TO_THE_FIRST);
            b.round(0);
            Bounds.due("back to the first of all", b.shortest(0), 2);
            int first = b.shortest(1);
            Bounds.due("back to the first of all", b.change(first) >= 0 ? 1 : 0, 1);
            b.change(b.shortest(1));
            Bounds.dueRow("back to the first of all", b, "0 1 2");
        });
        Bounds.sentence(REST, "none (no REST can be come to, there is none to do).", () -> {
            Bounds.sizes((meek, n, ring) -> {
                Bounds.due("no rest at all", meek.get().shortest(0), NONE);
                Bounds.due("no rest at all", meek.get().shortest(1), NONE);
                Bounds.due("none to do", Bounds.laid(Bounds.fools(n, ring)).shortest(1), NONE);
            });
            BothWould b = Bounds.laid(REST_OUT_OF_REACH);
            Bounds.due("there is rest", b.rests(-1), 2);
            Bounds.due("but out of reach", b.shortest(0), NONE);
            Bounds.due("but out of reach", b.shortest(1), NONE);
            Bounds.due("none to do", Bounds.resting().shortest(1), NONE);
        });
        Bounds.sentence("20: shortest", "SHORTEST: how many (what = 0), the first (1). NONE; BAD.", () -> {
            Bounds.between("shortest", Bounds::busy, (b, v) -> b.shortest(v[0]), Bounds.ends(0, 1));
            Bounds.between("shortest at rest", Bounds::resting, (b, v) -> b.shortest(v[0]), Bounds.ends(0, 1));
            Bounds.between("shortest, none", Bounds::full, (b, v) -> b.shortest(v[0]), Bounds.ends(0, 1));
            Bounds.unchanged("shortest", Bounds::busy, b -> b.shortest(0), 1);
            Bounds.unchanged("shortest", Bounds::busy, b -> b.shortest(1), 1);
            Bounds.unchanged("shortest at rest", Bounds::resting, b -> b.shortest(0), 0);
            Bounds.unchanged("shortest at rest", Bounds::resting, b -> b.shortest(1), NONE);
            Bounds.unchanged("shortest, none", Bounds::full, b -> b.shortest(0), NONE);
            Bounds.unchanged("shortest, none", Bounds::full, b -> b.shortest(1), NONE);
        });
    }

    private static void shortestByHand(String text, int many) {
        BothWould b = wayByHand(text, many, (c, v) -> c.shortest(v[0]));
        Bounds.due("changes that suit then", b.count(2), 0);
    }

    // Each first CHANGE brings one nearer, and no lower one does; made anew for each, as 512 calls
    // are the most of one object.
    private static BothWould wayByHand(String text, int many, Bounds.Numbers way) {
        int[] done = new int[many];
        for (int k = 0; k < many; k++) {
            BothWould b = behind(text, done, k);
            Bounds.due("how many behind " + k + " of " + text, way.on(b, new int[] {0}), many - k);
            done[k] = way.on(b, new int[] {1});
            for (int x = 0; x < done[k]; x++) {
                if (b.change(x) >= 0) {
                    Bounds.due("nearer behind the lower " + x, way.on(b, new int[] {0}) == many - k - 1 ? 1 : 0, 0);
                    b.undo();
                }
            }
        }
        BothWould b = behind(text, done, many);
        Bounds.due("how many behind all of " + text, way.on(b, new int[] {0}), 0);
        Bounds.due("the first behind all of " + text, way.on(b, new int[] {1}), NONE);
        return b;
    }

    private static BothWould behind(String text, int[] changes, int many) {
        BothWould b = Bounds.laid(text);
        for (int k = 0; k < many; k++) {
            if (b.change(changes[k]) < 0) {
                Bounds.fail("change(" + changes[k] + ") of " + text + " is not done");
            }
        }
        return b;
    }

    // ---- COMES, BARS

    private static void comes() {
        Bounds.sentence(REST, "COMES a PERSON to a PLACE: the fewest CHANGES that SUIT, one behind the other, by which he is there (0, if he is);",
            () -> {
                Bounds.sizes((meek, n, ring) -> {
                    BothWould b = meek.get();
                    for (int i = 0; i < n; i++) {
                        for (int p = 0; p < n; p++) {
                            int steps = Math.abs(i - p);
                            Bounds.due("comes(" + i + ", " + p + ", 0)", b.comes(i, p, 0), ring ? Math.min(steps, n - steps) : steps);
                        }
                    }
                });
                comesByHand(LONG_COMES, 2, 0, 50);
                comesByHand(Bounds.TWO_WAYS, 0, 2, 2);
                comesByHand(ROUND_THE_END, 0, 2, 1);
            });
        Bounds.sentence(REST, "the first of them (the lowest of such ways); none.", () -> {
            BothWould b = Bounds.laid(Bounds.meek(4, true));
            Bounds.due("either way", b.comes(0, 2, 1), 0);
            Bounds.due("round the end", b.comes(0, 3, 1), 3);
            Bounds.due("round the end", b.comes(3, 0, 1), 3);
            Bounds.due("either way of the last", b.comes(3, 1, 1), 2);
            b = Bounds.laid(Bounds.meek(2, true));
            Bounds.due("of a ring of two both", b.comes(0, 1, 1), 0);
            b = Bounds.laid(Bounds.meek(3, false));
            b.change(1);
            Bounds.due("back to the first of all", b.comes(2, 2, 0), 1);
            Bounds.due("back to the first of all", b.comes(2, 2, 1), 1);
            Bounds.sizes((meek, n, ring) -> {
                for (int p = 0; p < n; p++) {
                    Bounds.due("he is there", meek.get().comes(p, p, 0), 0);
                    Bounds.due("he is there", meek.get().comes(p, p, 1), NONE);
                    BothWould fools = Bounds.laid(Bounds.fools(n, ring));
                    Bounds.due("he is there", fools.comes(p, p, 0), 0);
                    Bounds.due("a fool", fools.comes(p, (p + 1) % n, 0), NONE);
                    Bounds.due("a fool", fools.comes(p, (p + 1) % n, 1), NONE);
                }
            });
        });
        Bounds.sentence("21: comes", "COMES: how many (what = 0), the first (1; NONE, if he is there). NONE; BAD.", () -> {
            Bounds.sizes((meek, n, ring) -> {
                if (n == 2 || n == 6 && ring) {
                    Bounds.between("comes", meek, (b, v) -> b.comes(v[0], v[1], v[2]), Bounds.ends(0, n - 1), Bounds.ends(0, n - 1),
                        Bounds.ends(0, 1));
                }
            });
            Bounds.between("comes at rest", Bounds::resting, (b, v) -> b.comes(v[0], v[1], v[2]), Bounds.ends(0, 2), Bounds.ends(0, 2),
                Bounds.ends(0, 1));
            Bounds.unchanged("comes", Bounds::busy, b -> b.comes(0, 2, 0), 1);
            Bounds.unchanged("comes", Bounds::busy, b -> b.comes(0, 2, 1), 1);
            Bounds.unchanged("comes, he is there", Bounds::busy, b -> b.comes(0, 1, 0), 0);
            Bounds.unchanged("comes, he is there", Bounds::busy, b -> b.comes(0, 1, 1), NONE);
            Bounds.unchanged("comes, none", Bounds::busy, b -> b.comes(0, 0, 0), NONE);
            Bounds.unchanged("comes, none", Bounds::busy, b -> b.comes(0, 0, 1), NONE);
        });
    }

    private static void comesByHand(String text, int i, int p, int many) {
        BothWould b = wayByHand(text, many, (c, v) -> c.comes(i, p, v[0]));
        Bounds.due("at(" + p + ") of " + text, b.at(p), i);
    }

    private static void bars() {
        Bounds.sentence(REST, "BARS: if there is none,", () -> {
            Bounds.sizes((meek, n, ring) -> {
                BothWould b = meek.get();
                for (int p = 0; p < n; p++) {
                    Bounds.due("he is there, or can come", b.bars(0, p), NONE);
                    Bounds.due("he is there, or can come", b.bars(n - 1, p), NONE);
                }
            });
            Bounds.due("a fool who is there", Bounds.laid(Bounds.fools(3, false)).bars(1, 1), NONE);
            Bounds.due("he can come though one is a fool", Bounds.laid("p0,0,4;p0,0,4;p0,0,3;").bars(0, 1), NONE);
        });
        Bounds.sentence(REST, "the lowest PERSON but him by whom, MEEK, there would be one; none.", () -> {
            Bounds.due("the first", Bounds.laid("p0,0,3;p0,0,4;").bars(1, 0), 0);
            Bounds.due("the last", Bounds.laid("p0,0,4;".repeat(5) + "p0,0,3;").bars(4, 5), 5);
            // To the PLACE over against him by either side of the RING, where a FOOL is at each.
            String either = "p0,0,4;p0,0,3;p0,0,4;p0,0,3;r1;";
            Bounds.due("the lowest of two", Bounds.laid(either).bars(0, 2), 1);
            Bounds.due("the lowest of two", Bounds.laid(either).bars(2, 0), 1);
            Bounds.due("round the end", Bounds.laid(either).bars(0, 3), 3);
            Bounds.due("round the end, at the first place", Bounds.laid("p0,0,3;p0,0,3;p0,0,4;r1;").bars(2, 0), 0);
            Bounds.due("two of whom either is too few", Bounds.laid("p0,0,4;p0,0,3;p0,0,3;").bars(0, 2), NONE);
            Bounds.due("he himself bars it", Bounds.laid("p0,0,3;p0,0,4;").bars(0, 1), NONE);
            Bounds.due("he himself, and another one", Bounds.laid(Bounds.fools(2, true)).bars(0, 1), NONE);
            // Not only FOOLS bar: a PLAIN one who would lose, a WILLING one, a GREEDY one who gains 9.
            Bounds.due("plain", Bounds.laid("p0,0,4;p1,1,0;").bars(0, 1), 1);
            Bounds.due("plain who gains nothing", Bounds.laid("p0,0,4;p1,0,0;").bars(0, 1), 1);
            Bounds.due("willing", Bounds.laid("p0,0,4;p1,1,1;").bars(0, 1), 1);
            Bounds.due("greedy", Bounds.laid("p0,0,4;p0,9,2;").bars(0, 1), 1);
            Bounds.due("greedy who gains 10", Bounds.laid("p0,0,4;p0,10,2;").bars(0, 1), NONE);
            // At 1 0 2 both 1 and 0 are where they like it best: 2 could come to PLACE 0 by the last CHANGE.
            BothWould b = Bounds.laid("p1,5,0;p0,5,0;p0,0,4;r1;");
            b.change(0);
            Bounds.due("round the end, at the first place", b.bars(2, 0), 1);
            // Back to the first of all arrangements.
            b = Bounds.laid("p0,0,4;p0,5,0;");
            b.change(0);
            Bounds.due("who would not go back", b.bars(0, 0), 1);
        });
        Bounds.sentence("22: bars", "BARS. NONE (nobody; or he can come); BAD.", () -> {
            Bounds.sizes((meek, n, ring) ->
                Bounds.between("bars", meek, (b, v) -> b.bars(v[0], v[1]), Bounds.ends(0, n - 1), Bounds.ends(0, n - 1)));
            Bounds.between("bars at rest", Bounds::resting, (b, v) -> b.bars(v[0], v[1]), Bounds.ends(0, 2), Bounds.ends(0, 2));
            Bounds.unchanged("bars", () -> Bounds.laid("p0,0,4;p0,0,3;p0,0,4;p0,0,3;r1;"), b -> b.bars(0, 2), 1);
            Bounds.unchanged("bars, nobody", () -> Bounds.laid("p0,0,4;p0,0,3;p0,0,3;"), b -> b.bars(0, 2), NONE);
            Bounds.unchanged("bars, he can come", Bounds::full, b -> b.bars(0, 2), NONE);
        });
    }

    // ---- BEST

    private static void best() {
        Bounds.sentence(REST, "BEST of all arrangements is that of the greatest sum of WORTHS, of several the first: the sum; who is at a PLACE.",
            () -> {
                Bounds.sizes((meek, n, ring) -> {
                    BothWould b = Bounds.laid(Bounds.fools(n, ring));
                    Bounds.due("all alike", b.best(-1), 10000 + 100 * n);
                    for (int p = 0; p < n; p++) {
                        Bounds.due("the first of all", b.best(p), p);
                    }
                });
                for (int n = 2; n <= 6; n++) {
                    // Each wants the PLACE that is his in the last of all arrangements.
                    StringBuilder text = new StringBuilder();
                    for (int i = 0; i < n; i++) {
                        text.append("p" + (n - 1 - i) + ",1,0;");
                    }
                    BothWould b = Bounds.laid(text.toString());
                    Bounds.due("the last of all", b.best(-1), 10000 + 100 * n);
                    for (int p = 0; p < n; p++) {
                        Bounds.due("the last of all", b.best(p), n - 1 - p);
                    }
                }
                for (String text : PEOPLE) {
                    bestByHand(text);
                }
            });
        Bounds.sentence(REST, "of the greatest sum of WORTHS", () -> {
            // All want PLACE 0, at 20 a step, and can't stand each other: less than 0.
            Bounds.due("a row: 600 - 500 - 15 * 20", everyLiking(20, 0, false).best(-1), 9800);
            Bounds.due("a ring: 600 - 600 - 9 * 20", everyLiking(20, 0, true).best(-1), 9820);
            Bounds.due("the first of several", everyLiking(20, 0, false).best(0), 0);
            Bounds.due("a row: 600 + 10 * 49", everyLiking(0, 99, false).best(-1), 11090);
            Bounds.due("a ring: 600 + 12 * 49", everyLiking(0, 99, true).best(-1), 11188);
        });
        Bounds.sentence("23: best", "BEST: the sum and 10000 (p = -1), who is at a PLACE. BAD.", () -> {
            Bounds.sizes((meek, n, ring) ->
                Bounds.between("best", meek, (b, v) -> b.best(v[0]), Bounds.ends(-1, n - 1)));
            Bounds.between("best", Bounds::busy, (b, v) -> b.best(v[0]), Bounds.ends(-1, 2));
            Bounds.unchanged("best", Bounds::busy, b -> b.best(-1), 10300);
            Bounds.unchanged("best", Bounds::busy, b -> b.best(0), 1);
            Bounds.unchanged("best", Bounds::resting, b -> b.best(2), 0);
        });
    }

    private static BothWould everyLiking(int w, int v, boolean ring) {
        StringBuilder text = new StringBuilder(("p0," + w + ",0;").repeat(6) + (ring ? "r1;" : ""));
        for (int i = 0; i < 6; i++) {
            for (int j = 0; j < 6; j++) {
                text.append(i == j ? "" : "l" + i + "," + j + "," + v + ";");
            }
        }
        return Bounds.laid(text.toString());
    }

    private static void bestByHand(String text) {
        List<int[]> all = Bounds.arrangements(people(text));
        int[] top = all.get(0);
        int most = Integer.MIN_VALUE;
        for (int[] who : all) {
            BothWould b = Bounds.laid(Bounds.seated(text, who));
            int sum = 0;
            for (int p = 0; p < who.length; p++) {
                sum += b.worth(p) - 1000;
            }
            if (sum > most) {
                most = sum;
                top = who;
            }
        }
        BothWould b = Bounds.laid(text);
        Bounds.due("best of " + text, b.best(-1), most + 10000);
        for (int p = 0; p < top.length; p++) {
            Bounds.due("best(" + p + ") of " + text, b.best(p), top[p]);
        }
    }
}
