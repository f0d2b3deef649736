import java.util.ArrayList;
import java.util.List;

// The boundary cases of CHANGES, ROUNDS, what is UNDONE and told, and of promises 10 to 16.
public final class ChangesBoundsTest {
    private static final int BAD = Bounds.BAD, NO = Bounds.NO, FULL = Bounds.FULL, NONE = Bounds.NONE;
    private static final int MIN = Bounds.MIN, MAX = Bounds.MAX;
    private static final String CHANGES = "CHANGES";
    // CHANGE 0 suits, CHANGE 1 does not; behind CHANGE 0 it is the other way round; then there is REST.
    private static final String ONE_BEHIND_THE_OTHER = "p2,1,0;p0,1,0;p1,1,0;";

    public static void main(String[] args) {
        whichChanges();
        whoAgrees();
        whichRounds();
        doneAndUndone();
        toldRows();
        p10Suits();
        p11Change();
        p12Round();
        p13Undo();
        p14Tell();
        p15NoRow();
        p16Judge();
        Bounds.end();
    }

    private static int changes(int n, boolean ring) {
        return ring ? n : n - 1;
    }

    private static int rounds(int n, boolean ring) {
        return n < 3 ? 0 : ring ? n : n - 2;
    }

    // Those of 0, 1, .. with some PLACES given anew.
    private static String ordered(int n, int... placeAndWho) {
        int[] who = new int[n];
        for (int p = 0; p < n; p++) {
            who[p] = p;
        }
        for (int k = 0; k < placeAndWho.length; k += 2) {
            who[placeAndWho[k]] = placeAndWho[k + 1];
        }
        StringBuilder s = new StringBuilder();
        for (int p = 0; p < n; p++) {
            s.append(p == 0 ? "" : " ").append(who[p]);
        }
        return s.toString();
    }

    // ---- CHANGES

    private static void whichChanges() {
        Bounds.sentence(CHANGES, "CHANGE x (of who is at x and who is at x and 1;", () ->
            Bounds.sizes((state, n, ring) -> {
                for (int x = 0; x < n - 1; x++) {
                    BothWould b = state.get();
                    Bounds.due("change(" + x + ") of " + n, b.change(x), x + 1);
                    Bounds.dueRow("change(" + x + ") of " + n, b, ordered(n, x, x + 1, x + 1, x));
                }
            }));
        Bounds.sentence(CHANGES, "modulo how many in a RING, where x may be the last PLACE, too)", () ->
            Bounds.sizes((state, n, ring) -> {
                BothWould b = state.get();
                Bounds.due("suits at the last place of " + n, b.suits(n - 1, false), ring ? 1 : BAD);
                Bounds.due("suits behind the last place of " + n, b.suits(n, false), BAD);
                Bounds.due("change at the last place of " + n, b.change(n - 1), ring ? 0 : BAD);
                Bounds.dueRow("change at the last place of " + n, b, ring ? ordered(n, n - 1, 0, 0, n - 1) : ordered(n));
            }));
        Bounds.sentence(CHANGES, "in a RING, where x may be the last PLACE, too) SUITS", () -> {
            // Of two both CHANGES are of the same two: they undo each other.
            BothWould b = Bounds.laid(Bounds.meek(2, true));
            Bounds.due("change(0)", b.change(0), 1);
            Bounds.dueRow("change(0)", b, "1 0");
            Bounds.due("change(1)", b.change(1), 1);
            Bounds.dueRow("change(1)", b, "0 1");
            Bounds.due("change(1)", b.change(1), 0);
            Bounds.dueRow("change(1)", b, "1 0");
            b = Bounds.laid("p1,5,0;p0,5,0;r1;");
            Bounds.due("suits(0)", b.suits(0, false), 1);
            Bounds.due("suits(1)", b.suits(1, false), 1);
            b.change(1);
            Bounds.due("suits(0) then", b.suits(0, false), 0);
            Bounds.due("suits(1) then", b.suits(1, false), 0);
        });
        Bounds.sentence(CHANGES, "SUITS, if both agree by their WORTH ahead and behind", () -> {
            String[] yes = {"p1,1,0;", "p0,1,0;"};
            String[] not = {"p0,1,0;", "p1,1,0;"};
            for (String ring : new String[] {"", "r1;"}) {
                Bounds.due("both", Bounds.laid(yes[0] + yes[1] + ring).suits(0, false), 1);
                Bounds.due("who is at x alone", Bounds.laid(yes[0] + not[1] + ring).suits(0, false), 0);
                Bounds.due("the other one alone", Bounds.laid(not[0] + yes[1] + ring).suits(0, false), 0);
                Bounds.due("neither", Bounds.laid(not[0] + not[1] + ring).suits(0, false), 0);
            }
        });
    }

    private static void agreesFrom(int kind, int least, String quote) {
        Bounds.sentence(CHANGES, quote, () -> {
            for (int side = 0; side < Bounds.SIDES; side++) {
                for (int gain = -70; gain <= 69; gain++) {
                    int suits = Bounds.gaining(kind, gain, side).suits(Bounds.SIDE_X[side], false);
                    Bounds.due("kind " + kind + " who gains " + gain + ", side " + side, suits, gain >= least ? 1 : 0);
                }
            }
        });
    }

    private static void whoAgrees() {
        agreesFrom(0, 1, "PLAIN, if it is more,");
        agreesFrom(1, 0, "WILLING, if it is no less,");
        agreesFrom(2, 10, "GREEDY, if it is more by 10 at least,");
        agreesFrom(3, MAX, "a FOOL never,");
        agreesFrom(4, MIN, "MEEK always.");
        Bounds.sentence(CHANGES, "agree by their WORTH ahead and behind: PLAIN, if it is more", () -> {
            // By PLACE alone, of two: from one less to one more.
            Bounds.due("1 more", Bounds.laid("p1,1,0;p0,0,4;").suits(0, false), 1);
            Bounds.due("no more by W 0", Bounds.laid("p1,0,0;p0,0,4;").suits(0, false), 0);
            Bounds.due("1 less", Bounds.laid("p0,1,0;p0,0,4;").suits(0, false), 0);
            // In a RING of four he who wants the last PLACE is one step from it, and behind CHANGE 0 two.
            Bounds.due("nearer by the ring's end", Bounds.laid("p3,1,0;p0,0,4;p0,0,4;p0,0,4;r1;").suits(3, false), 1);
            Bounds.due("farther by the ring", Bounds.laid("p3,1,0;p0,0,4;p0,0,4;p0,0,4;r1;").suits(0, false), 0);
        });
    }

    private static void whichRounds() {
        Bounds.sentence(CHANGES, "ROUND x: who is at x goes to x and 1, he of that to x and 2, he of that to x;", () ->
            Bounds.sizes((state, n, ring) -> {
                for (int x = 0; x < rounds(n, ring); x++) {
                    BothWould b = state.get();
                    int y = (x + 1) % n;
                    int z = (x + 2) % n;
                    Bounds.due("round(" + x + ") of " + n, b.round(x), z);
                    Bounds.dueRow("round(" + x + ") of " + n, b, ordered(n, x, z, y, x, z, y));
                }
            }));
        Bounds.sentence(CHANGES, "it SUITS, if all three agree", () -> {
            Bounds.due("all three", Bounds.laid(Bounds.ONLY_ROUND).suits(0, true), 1);
            for (int n = 3; n <= 6; n++) {
                for (int x = 0; x < n; x++) {
                    for (int fool = 0; fool < n; fool++) {
                        String text = "p0,0,4;".repeat(fool) + "p0,0,3;" + "p0,0,4;".repeat(n - 1 - fool);
                        boolean among = fool == x || fool == (x + 1) % n || fool == (x + 2) % n;
                        Bounds.due("ring of " + n + ", round " + x + ", fool " + fool,
                            Bounds.laid(text + "r1;").suits(x, true), among ? 0 : 1);
                        if (x < n - 2) {
                            Bounds.due("row of " + n + ", round " + x + ", fool " + fool,
                                Bounds.laid(text).suits(x, true), among ? 0 : 1);
                        }
                    }
                }
            }
            // Each of three by as much as he asks for, and by 1 less.
            Bounds.due("1 more, no less, 10 more", Bounds.laid("p1,1,0;p1,0,1;p0,5,2;").suits(0, true), 1);
            Bounds.due("0 more, no less, 10 more", Bounds.laid("p1,0,0;p1,0,1;p0,5,2;").suits(0, true), 0);
            Bounds.due("1 more, 1 less, 10 more", Bounds.laid("p1,1,0;p1,1,1;p0,5,2;").suits(0, true), 0);
            Bounds.due("1 more, no less, 9 more", Bounds.laid("p1,1,0;p1,0,1;p0,0,2;l2,0,59;").suits(0, true), 0);
            Bounds.due("1 more, no less, 10 more by liking", Bounds.laid("p1,1,0;p1,0,1;p0,0,2;l2,0,60;").suits(0, true), 1);
        });
        Bounds.sentence(CHANGES, "(of 3 PERSONS at least; x as for CHANGE, so that there are such PLACES)", () ->
            Bounds.sizes((state, n, ring) -> {
                for (int x = -1; x <= 7; x++) {
                    boolean is = x >= 0 && x < rounds(n, ring);
                    Bounds.due("suits(" + x + ", true) of " + n, state.get().suits(x, true), is ? 1 : BAD);
                    Bounds.due("round(" + x + ") of " + n, state.get().round(x), is ? (x + 2) % n : BAD);
                }
            }));
    }

    private static void doneAndUndone() {
        Bounds.sentence(CHANGES, "Done are CHANGES and ROUNDS that SUIT;", () -> {
            for (int x = 0; x < 2; x++) {
                int at = x;
                Bounds.unchanged("change(" + x + ") at rest", Bounds::resting, b -> b.change(at), NO);
            }
            Bounds.unchanged("round(0) at rest", Bounds::resting, b -> b.round(0), NO);
            Bounds.unchanged("change(0)", Bounds::busy, b -> b.change(0), NO);
            Bounds.unchanged("round(0)", Bounds::busy, b -> b.round(0), NO);
            BothWould b = Bounds.laid(Bounds.ONLY_ROUND);
            Bounds.due("a round where no change suits", b.round(0), 2);
        });
        Bounds.sentence(CHANGES, "UNDONE is the latest of these (the last 8 can be).", () -> {
            for (int many = 0; many <= 20; many++) {
                BothWould b = Bounds.laid(Bounds.meek(3, true));
                List<String> rows = new ArrayList<>();
                rows.add(Bounds.row(b));
                for (int k = 0; k < many; k++) {
                    int done = k % 4 == 3 ? b.round(k % 3) : b.change(k * k % 3);
                    rows.add(Bounds.row(b));
                    if (done < 0) {
                        Bounds.fail("not done: " + done);
                    }
                }
                int can = Math.min(8, many);
                Bounds.due("can be undone of " + many, b.count(5), can);
                for (int k = 1; k <= can; k++) {
                    Bounds.due("undo " + k + " of " + many, b.undo(), can - k);
                    Bounds.dueRow("undo " + k + " of " + many, b, rows.get(many - k));
                }
                Bounds.due("undo beyond " + can, b.undo(), NO);
                Bounds.dueRow("undo beyond " + can, b, rows.get(many - can));
            }
        });
    }

    private static void toldRows() {
        Bounds.sentence(CHANGES, "A told row of CHANGES (12 at most) is JUDGED", () -> {
            BothWould b = Bounds.laid("p0,0,4;p0,0,4;p0,0,3;");
            for (int k = 1; k <= 11; k++) {
                Bounds.due("tell", b.tell(0), k);
                Bounds.due("judge of " + k, b.judge(), NONE);
            }
            Bounds.due("tell of the fool", b.tell(1), 12);
            Bounds.due("the twelfth is judged", b.judge(), 11);
            Bounds.due("tell of a thirteenth", b.tell(0), FULL);
            Bounds.due("judge", b.judge(), 11);
        });
        Bounds.sentence(CHANGES, "from now on: the first that does not SUIT where it comes; none.", () -> {
            BothWould b = Bounds.laid(ONE_BEHIND_THE_OTHER);
            Bounds.due("none told", b.judge(), NONE);
            b.tell(1);
            Bounds.due("the first", b.judge(), 0);
            b.tell(0);
            Bounds.due("the first, though the second suits", b.judge(), 0);
            b.noRow();
            b.tell(0);
            b.tell(1);
            Bounds.due("CHANGE 1 does not suit now", b.suits(1, false), 0);
            Bounds.due("but where it comes", b.judge(), NONE);
            b.tell(0);
            Bounds.due("CHANGE 0 suits now", b.suits(0, false), 1);
            Bounds.due("but not where it comes", b.judge(), 2);
            b.change(0);
            Bounds.due("from now on", b.judge(), 0);
            b.undo();
            Bounds.due("from now on, again", b.judge(), 2);
            // The wrap-around of a RING: 0 and 2 change by CHANGE 2 alone.
            b = Bounds.laid("p2,1,0;p1,20,3;p0,1,0;r1;");
            b.tell(2);
            Bounds.due("round the end", b.judge(), NONE);
            b.tell(2);
            Bounds.due("round the end, and back", b.judge(), 1);
        });
    }

    // ---- promises

    private static void p10Suits() {
        Bounds.sentence("10: suits", "Whether a CHANGE (three = false), a ROUND (true) SUITS: 1, 0. BAD.", () -> {
            Bounds.sizes((state, n, ring) -> {
                Bounds.between("suits", state, (b, v) -> b.suits(v[0], false), Bounds.ends(0, changes(n, ring) - 1));
                if (n >= 3) {
                    Bounds.between("suits of three", state, (b, v) -> b.suits(v[0], true), Bounds.ends(0, rounds(n, ring) - 1));
                } else {
                    for (int x : new int[] {MIN, -1, 0, 1, 2, MAX}) {
                        Bounds.unchanged("suits(" + x + ", true) of two", state, b -> b.suits(x, true), BAD);
                    }
                }
            });
            Bounds.unchanged("suits", Bounds::busy, b -> b.suits(1, false), 1);
            Bounds.unchanged("suits", Bounds::busy, b -> b.suits(0, false), 0);
            Bounds.unchanged("suits of three", Bounds::busy, b -> b.suits(0, true), 0);
            Bounds.unchanged("suits of three", Bounds::full, b -> b.suits(0, true), 1);
        });
    }

    private static void p11Change() {
        Bounds.sentence("11: change", "A CHANGE is done: who is at x then. BAD; NO.", () -> {
            Bounds.sizes((state, n, ring) ->
                Bounds.between("change", state, (b, v) -> b.change(v[0]), Bounds.ends(0, changes(n, ring) - 1)));
            Bounds.between("change, though none suits", Bounds::resting, (b, v) -> b.change(v[0]), Bounds.ends(0, 1));
            Bounds.between("change", Bounds::full, (b, v) -> b.change(v[0]), Bounds.ends(0, 1));
            Bounds.between("change among fools", () -> Bounds.laid(Bounds.fools(3, true)), (b, v) -> b.change(v[0]), Bounds.ends(0, 2));
            for (int x = 0; x < 3; x++) {
                int at = x;
                Bounds.unchanged("change(" + x + ") among fools", () -> Bounds.laid(Bounds.fools(3, true)), b -> b.change(at), NO);
            }
        });
        Bounds.sentence("11: change", "A CHANGE is done: who is at x then.", () -> {
            BothWould b = Bounds.busy();
            Bounds.due("change(1)", b.change(1), 2);
            Bounds.dueRow("change(1)", b, "1 2 0");
            int[] counts = {3, 2, 0, 3, 2, 2, 1, 32};
            for (int what = 0; what < 8; what++) {
                Bounds.due("count(" + what + ")", b.count(what), counts[what]);
            }
            Bounds.due("undo", b.undo(), 1);
            Bounds.same("a change that is undone", Bounds.shown(b), Bounds.shown(Bounds.busy()));
        });
    }

    private static void p12Round() {
        Bounds.sentence("12: round", "A ROUND is done: who is at x then. BAD; NO.", () -> {
            Bounds.sizes((state, n, ring) -> {
                if (n >= 3) {
                    Bounds.between("round", state, (b, v) -> b.round(v[0]), Bounds.ends(0, rounds(n, ring) - 1));
                } else {
                    for (int x : new int[] {MIN, -1, 0, 1, 2, MAX}) {
                        Bounds.unchanged("round(" + x + ") of two", state, b -> b.round(x), BAD);
                    }
                }
            });
            Bounds.between("round, though none suits", Bounds::resting, (b, v) -> b.round(v[0]), Bounds.ends(0, 0));
            Bounds.between("round", Bounds::full, (b, v) -> b.round(v[0]), Bounds.ends(0, 0));
            for (int x = 0; x < 3; x++) {
                int at = x;
                Bounds.unchanged("round(" + x + ") among fools", () -> Bounds.laid(Bounds.fools(3, true)), b -> b.round(at), NO);
            }
        });
        Bounds.sentence("12: round", "A ROUND is done", () -> {
            BothWould b = Bounds.laid(Bounds.ONLY_ROUND);
            Bounds.due("round(0)", b.round(0), 2);
            Bounds.dueRow("round(0)", b, "2 0 1");
            Bounds.due("one can be undone", b.count(5), 1);
            Bounds.due("undo", b.undo(), 0);
            Bounds.same("a round that is undone", Bounds.shown(b), Bounds.shown(Bounds.laid(Bounds.ONLY_ROUND)));
        });
    }

    private static void p13Undo() {
        Bounds.sentence("13: undo", "UNDONE: how many more can be. NO.", () -> {
            Bounds.unchanged("undo of nothing", Bounds::fresh, BothWould::undo, NO);
            Bounds.unchanged("undo of nothing, all else full", () -> undone(Bounds.full(), 8), BothWould::undo, NO);
            BothWould b = Bounds.full();
            for (int k = 7; k >= 0; k--) {
                Bounds.due("undo", b.undo(), k);
                Bounds.due("can be undone", b.count(5), k);
            }
            Bounds.due("undo", b.undo(), NO);
            Bounds.due("undo", b.undo(), NO);
            Bounds.due("a change can be done again", b.change(0) >= 0 ? 1 : 0, 1);
            Bounds.due("and undone", b.undo(), 0);
        });
        Bounds.sentence("13: undo", "UNDONE is the latest of these", () -> {
            // What was undone is not done again, and what is told, SEEN, KEPT, written stays.
            BothWould b = Bounds.busy();
            Bounds.due("undo", b.undo(), 0);
            Bounds.dueRow("undo", b, "0 1 2");
            int[] counts = {3, 2, 2, 3, 2, 0, 1, 32};
            for (int what = 0; what < 8; what++) {
                Bounds.due("count(" + what + ")", b.count(what), counts[what]);
            }
            // A refused CHANGE is none that could be undone.
            b = Bounds.resting();
            b.change(0);
            b.change(7);
            b.round(0);
            Bounds.due("undo behind refused ones", b.undo(), 0);
            Bounds.dueRow("undo behind refused ones", b, "0 1 2");
        });
    }

    private static BothWould undone(BothWould b, int many) {
        for (int k = 0; k < many; k++) {
            b.undo();
        }
        return b;
    }

    private static void p14Tell() {
        Bounds.sentence("14: tell", "A CHANGE more in the told row: how many. BAD; FULL.", () -> {
            Bounds.sizes((state, n, ring) ->
                Bounds.between("tell", state, (b, v) -> b.tell(v[0]), Bounds.ends(0, changes(n, ring) - 1)));
            Bounds.between("tell behind twelve", Bounds::full, (b, v) -> b.tell(v[0]), Bounds.ends(0, 1));
            Bounds.unchanged("tell behind twelve", Bounds::full, b -> b.tell(0), FULL);
            Bounds.unchanged("tell behind twelve", Bounds::full, b -> b.tell(1), FULL);
            BothWould b = Bounds.laid(Bounds.fools(2, false));
            for (int k = 1; k <= 12; k++) {
                Bounds.due("tell of what does not suit", b.tell(0), k);
                Bounds.due("told", b.count(3), k);
            }
            Bounds.due("tell", b.tell(0), FULL);
            Bounds.due("told", b.count(3), 12);
            b.noRow();
            Bounds.due("room again", b.tell(0), 1);
        });
        Bounds.sentence("14: tell", "A CHANGE more in the told row", () -> {
            BothWould b = Bounds.laid(Bounds.TWO_WAYS);
            b.tell(0);
            Bounds.dueRow("nothing is done", b, "0 1 2");
            Bounds.due("nothing can be undone", b.count(5), 0);
            // It comes behind the others.
            b.tell(1);
            b.tell(1);
            Bounds.due("the third", b.judge(), 2);
        });
    }

    private static void p15NoRow() {
        Bounds.sentence("15: noRow", "No told row: how many it had.", () -> {
            Bounds.unchanged("noRow of none", Bounds::fresh, BothWould::noRow, 0);
            BothWould b = Bounds.laid(Bounds.TWO_WAYS);
            b.tell(1);
            Bounds.due("noRow of one", b.noRow(), 1);
            Bounds.due("noRow again", b.noRow(), 0);
            b = Bounds.full();
            Bounds.due("noRow of twelve", b.noRow(), 12);
            int[] counts = {3, 2, 2, 0, 8, 8, 2, 300};
            for (int what = 0; what < 8; what++) {
                Bounds.due("count(" + what + ")", b.count(what), counts[what]);
            }
            Bounds.due("judge", b.judge(), NONE);
            Bounds.dueRow("noRow", b, "0 2 1");
        });
    }

    private static void p16Judge() {
        Bounds.sentence("16: judge", "JUDGED. NONE.", () -> {
            Bounds.unchanged("judge of none", Bounds::fresh, BothWould::judge, NONE);
            Bounds.unchanged("judge of twelve that suit", Bounds::full, BothWould::judge, NONE);
            Bounds.unchanged("judge of one that does not", Bounds::resting, BothWould::judge, 0);
            // 1 0 2 with CHANGES 1, 0, 1 told: behind 1 2 0 nothing suits.
            Bounds.unchanged("judge", Bounds::busy, BothWould::judge, 1);
        });
    }
}
