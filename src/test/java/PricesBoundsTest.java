// The boundary cases of PRICES, DEALS, LIES, what was SEEN, evenings by CHANCE, what is KEPT, of
// promises 24 to 33, and of what BAD, NO, NONE and FULL mean and which comes first.
public final class PricesBoundsTest {
    private static final int BAD = Bounds.BAD, NO = Bounds.NO, FULL = Bounds.FULL, NONE = Bounds.NONE;
    private static final int MIN = Bounds.MIN, MAX = Bounds.MAX;
    private static final int MEAN = 100000000;
    // By the truth the MEEK two change for ever; by 1 he would stand between them.
    private static final String NO_REST_BY_TRUTH = "p0,5,0;p0,0,4;p0,0,4;";
    // By the truth he stands between the MEEK; by 0 it never ends.
    private static final String NO_REST_BY_A_LIE = "p1,5,0;p0,0,4;p0,0,4;";

    public static void main(String[] args) {
        prices();
        deals();
        lies();
        seen();
        fits();
        means();
        kept();
        counts();
        refusals();
        Bounds.end();
    }

    private static int changes(int n, boolean ring) {
        return ring ? n : n - 1;
    }

    // ---- PRICE

    private static void prices() {
        Bounds.sentence("PRICES", "PRICE of a yes to CHANGE x, of who is at x (0), at the other PLACE (1):", () -> {
            for (int side = 0; side < Bounds.SIDES; side++) {
                // He is PLAIN and loses 7, the other one is MEEK.
                BothWould b = Bounds.gaining(0, -7, side);
                Bounds.due("his, side " + side, b.price(Bounds.SIDE_X[side], Bounds.SIDE[side]), 8);
                Bounds.due("the other's, side " + side, b.price(Bounds.SIDE_X[side], 1 - Bounds.SIDE[side]), 0);
            }
            BothWould b = Bounds.laid("p0,3,0;p1,5,0;r1;");
            Bounds.due("ring of two", b.price(0, 0), 4);
            Bounds.due("ring of two", b.price(0, 1), 6);
            Bounds.due("ring of two, the last", b.price(1, 0), 6);
            Bounds.due("ring of two, the last", b.price(1, 1), 4);
        });
        Bounds.sentence("PRICES", "0, if he agrees; else what his WORTH would have to be more behind it, so that he does;", () -> {
            int[] least = {1, 0, 10};
            for (int side = 0; side < Bounds.SIDES; side++) {
                for (int gain = -70; gain <= 69; gain++) {
                    for (int kind = 0; kind < 3; kind++) {
                        Bounds.due("kind " + kind + " who gains " + gain + ", side " + side,
                            Bounds.gaining(kind, gain, side).price(Bounds.SIDE_X[side], Bounds.SIDE[side]),
                            Math.max(0, least[kind] - gain));
                    }
                    Bounds.due("meek who gains " + gain + ", side " + side,
                        Bounds.gaining(4, gain, side).price(Bounds.SIDE_X[side], Bounds.SIDE[side]), 0);
                }
            }
            Bounds.due("the most: from 129 to 10, 10 more at least",
                Bounds.laid("p0,0,4;p0,20,2;p0,0,4;p0,0,4;l1,0,99;l1,3,0;").price(1, 0), 129);
        });
        Bounds.sentence("PRICES", "none (a FOOL).", () -> {
            for (int side = 0; side < Bounds.SIDES; side++) {
                for (int gain = -70; gain <= 69; gain++) {
                    Bounds.due("a fool who gains " + gain + ", side " + side,
                        Bounds.gaining(3, gain, side).price(Bounds.SIDE_X[side], Bounds.SIDE[side]), NONE);
                }
            }
        });
        Bounds.sentence("24: price", "PRICE. NONE; BAD.", () -> {
            Bounds.sizes((meek, n, ring) ->
                Bounds.between("price", meek, (b, v) -> b.price(v[0], v[1]), Bounds.ends(0, changes(n, ring) - 1), Bounds.ends(0, 1)));
            Bounds.between("price among fools", () -> Bounds.laid(Bounds.fools(3, false)), (b, v) -> b.price(v[0], v[1]),
                Bounds.ends(0, 1), Bounds.ends(0, 1));
            Bounds.unchanged("price of a fool", () -> Bounds.laid(Bounds.fools(3, false)), b -> b.price(0, 0), NONE);
            Bounds.unchanged("price", Bounds::busy, b -> b.price(0, 1), 3);
            Bounds.unchanged("price", Bounds::busy, b -> b.price(1, 1), 0);
        });
    }

    // ---- DEAL

    private static void deals() {
        Bounds.sentence("PRICES", "DEAL: 1, if one agrees, and his WORTH is more by what is no less than the PRICE of the other and 1; else 0.",
            () -> {
                for (int gain = 0; gain <= 20; gain++) {
                    for (int w = 0; w <= 20; w++) {
                        // One PLAIN who gains; the other one loses w, or, GREEDY, gains w.
                        dealOf("p1," + gain + ",0;", "p1," + w + ",0;", gain >= w + 2 ? 1 : 0);
                        dealOf("p1," + gain + ",0;", "p1," + w + ",1;", gain >= w + 1 ? 1 : 0);
                        dealOf("p1," + gain + ",0;", "p1," + w + ",3;", 0);
                        dealOf("p1," + gain + ",0;", "p1," + w + ",4;", gain >= 1 ? 1 : 0);
                        boolean greedyPays = w >= 10 && w >= 1 + (gain >= 1 ? 0 : 1);
                        boolean plainPays = gain >= 1 && gain >= 1 + Math.max(0, 10 - w);
                        dealOf("p1," + gain + ",0;", "p0," + w + ",2;", greedyPays || plainPays ? 1 : 0);
                    }
                }
            });
        Bounds.sentence("PRICES", "if one agrees,", () -> {
            dealOf("p1,9,2;", "p0,0,1;", 0);
            dealOf("p1,10,2;", "p0,0,1;", 1);
            dealOf("p0,0,1;", "p0,0,1;", 0);
            dealOf("p0,0,4;", "p0,0,4;", 0);
            dealOf("p0,5,4;", "p1,5,4;", 0);
            dealOf("p1,20,3;", "p0,0,4;", 0);
            dealOf("p0,0,3;", "p0,0,3;", 0);
            dealOf("p1,1,4;", "p1,0,1;", 1);
            dealOf("p1,1,4;", "p1,1,1;", 0);
        });
        Bounds.sentence("25: deal", "DEAL. BAD.", () -> {
            Bounds.sizes((meek, n, ring) ->
                Bounds.between("deal", meek, (b, v) -> b.deal(v[0]), Bounds.ends(0, changes(n, ring) - 1)));
            Bounds.unchanged("deal", Bounds::busy, b -> b.deal(1), 1);
            Bounds.unchanged("deal", Bounds::busy, b -> b.deal(0), 0);
            Bounds.between("deal", Bounds::full, (b, v) -> b.deal(v[0]), Bounds.ends(0, 1));
        });
    }

    // Of two who are told of as at PLACE 0 and 1; and the other way round; and in a RING.
    private static void dealOf(String first, String second, int want) {
        Bounds.due("deal of " + first + second, Bounds.laid(first + second).deal(0), want);
        Bounds.due("deal in a ring of " + first + second, Bounds.laid(first + second + "r1;").deal(1), want);
        String turned = mirrored(second) + mirrored(first);
        Bounds.due("deal of " + turned, Bounds.laid(turned).deal(0), want);
    }

    private static String mirrored(String person) {
        return (person.charAt(1) == '0' ? "p1" : "p0") + person.substring(2);
    }

    // ---- LIE

    private static void lies() {
        Bounds.sentence("LIES", "LIE of a PERSON: he says that his BEST PLACE is b; then it is GOING ON from now as if.", () -> {
            String[] texts = {"p1,1,0;p0,3,4;p0,3,1;l0,1,45;", "p1,3,0;p2,1,0;p0,3,1;l1,2,57;", "p2,1,1;p0,1,0;p0,7,1;l0,2,45;l2,0,53;l1,2,48;",
                "p3,7,3;p1,5,0;p0,6,1;p0,7,0;p3,7,1;p3,2,0;r1;", "p2,4,2;p4,5,0;p3,7,0;p0,7,1;p0,0,4;r1;", NO_REST_BY_TRUTH,
                NO_REST_BY_A_LIE, Bounds.TWO_WAYS, "p2,2,0;p2,2,4;p0,4,1;p3,3,0;l0,1,55;l1,3,47;r1;", "p1,5,0;p0,5,0;r1;"};
            for (String text : texts) {
                BothWould b = Bounds.laid(text);
                int n = b.count(0);
                for (int i = 0; i < n; i++) {
                    lieByHand(text, i);
                }
                // From now: as of people who are seated so at first.
                for (int x = 0; x < n; x++) {
                    b.change(x);
                }
                int[] now = new int[n];
                for (int p = 0; p < n; p++) {
                    now[p] = b.at(p);
                }
                BothWould seated = Bounds.laid(Bounds.seated(text, now));
                for (int i = 0; i < n; i++) {
                    int other = Bounds.placeOf(now, i);
                    Bounds.due("lie(" + i + ", 0) from now, " + text, b.lie(i, 0), seated.lie(other, 0));
                    Bounds.due("lie(" + i + ", 1) from now, " + text, b.lie(i, 1), seated.lie(other, 1));
                }
            }
        });
        Bounds.sentence("LIES", "Of all b for which it comes to REST that by which his true WORTH there is greatest, the lowest: b;", () -> {
            BothWould b = Bounds.laid("p3,7,3;p1,5,0;p0,6,1;p0,7,0;p3,7,1;p3,2,0;r1;");
            Bounds.due("the last b", b.lie(2, 0), 5);
            Bounds.due("the last b", b.lie(2, 1), 6);
            b = Bounds.laid("p1,1,0;p0,3,4;p0,3,1;l0,1,45;");
            Bounds.due("the first b", b.lie(0, 0), 0);
            Bounds.due("the first b", b.lie(0, 1), 4);
            Bounds.sizes((meek, n, ring) -> {
                BothWould fools = Bounds.laid(Bounds.fools(n, ring));
                Bounds.due("all alike, the lowest", fools.lie(n - 1, 0), 0);
                Bounds.due("all alike, no more", fools.lie(n - 1, 1), 0);
            });
            b = Bounds.laid("p1,5,0;p0,5,0;");
            Bounds.due("the truth is best", b.lie(0, 0), 1);
            Bounds.due("the truth is best", b.lie(0, 1), 0);
            b = Bounds.laid(NO_REST_BY_A_LIE);
            Bounds.due("that for which it comes to rest", b.lie(0, 0), 1);
            Bounds.due("that for which it comes to rest", b.lie(0, 1), 0);
        });
        Bounds.sentence("LIES", "how much more that is than if he tells the truth;", () -> {
            // 1 tells the truth, 2, and ends beside 0 with 100; by 0 he stays beside 2 with 99 and 7 more.
            BothWould b = Bounds.laid("p1,3,0;p2,1,0;p0,3,1;l1,2,57;");
            Bounds.due("6 more", b.lie(1, 1), 6);
            Bounds.due("0 more", b.lie(0, 1), 0);
            b.change(1);
            Bounds.due("0 more when it is too late", b.lie(1, 1), 0);
        });
        Bounds.sentence("LIES", "none (no such b; by the truth it does not come to REST).", () -> {
            Bounds.sizes((meek, n, ring) -> {
                Bounds.due("no such b", meek.get().lie(0, 0), NONE);
                Bounds.due("no such b", meek.get().lie(n - 1, 1), NONE);
            });
            BothWould b = Bounds.laid(NO_REST_BY_TRUTH);
            Bounds.due("by the truth no rest", b.lie(0, 0), NONE);
            Bounds.due("by the truth no rest", b.lie(0, 1), NONE);
        });
        Bounds.sentence("26: lie", "LIE: b (what = 0), how much more (1). NONE; BAD.", () -> {
            Bounds.sizes((meek, n, ring) ->
                Bounds.between("lie, none", meek, (b, v) -> b.lie(v[0], v[1]), Bounds.ends(0, n - 1), Bounds.ends(0, 1)));
            Bounds.between("lie", Bounds::resting, (b, v) -> b.lie(v[0], v[1]), Bounds.ends(0, 2), Bounds.ends(0, 1));
            Bounds.unchanged("lie", () -> Bounds.laid("p1,3,0;p2,1,0;p0,3,1;l1,2,57;"), b -> b.lie(1, 0), 0);
            Bounds.unchanged("lie", () -> Bounds.laid("p1,3,0;p2,1,0;p0,3,1;l1,2,57;"), b -> b.lie(1, 1), 6);
            Bounds.unchanged("lie, no such b", Bounds::full, b -> b.lie(0, 0), NONE);
            Bounds.unchanged("lie, no such b", Bounds::full, b -> b.lie(2, 1), NONE);
            Bounds.unchanged("lie, no rest by the truth", () -> Bounds.laid(NO_REST_BY_TRUTH), b -> b.lie(0, 0), NONE);
            Bounds.unchanged("lie, no rest by the truth", () -> Bounds.laid(NO_REST_BY_TRUTH), b -> b.lie(0, 1), NONE);
        });
    }

    private static String saying(String text, int i, int b) {
        String[] items = text.split(";");
        StringBuilder s = new StringBuilder();
        int person = 0;
        for (String item : items) {
            boolean his = item.charAt(0) == 'p' && person == i;
            s.append(his ? "p" + b + item.substring(2) : item).append(";");
            person += item.charAt(0) == 'p' ? 1 : 0;
        }
        return s.toString();
    }

    // He says each b in a TEXT of its own; where it ends he is asked what it is truly worth.
    private static void lieByHand(String text, int i) {
        BothWould told = Bounds.laid(text);
        int n = told.count(0);
        int top = MIN;
        int said = NONE;
        int truth = MIN;
        for (int b = 0; b < n; b++) {
            BothWould as = Bounds.laid(saying(text, i, b));
            if (as.goingOn(-1) == NONE) {
                continue;
            }
            int[] end = new int[n];
            for (int p = 0; p < n; p++) {
                end[p] = as.goingOn(p);
            }
            int worth = Bounds.laid(Bounds.seated(text, end)).worth(Bounds.placeOf(end, i));
            if (b == told.person(i, 0)) {
                truth = worth;
            }
            if (worth > top) {
                top = worth;
                said = b;
            }
        }
        Bounds.due("lie(" + i + ", 0) of " + text, told.lie(i, 0), truth == MIN ? NONE : said);
        Bounds.due("lie(" + i + ", 1) of " + text, told.lie(i, 1), truth == MIN ? NONE : top - truth);
    }

    // ---- SEEN, FITS

    private static void seen() {
        Bounds.sentence("SEEN", "SEEN (8 at most):", () -> {
            BothWould b = Bounds.laid(Bounds.MEEK_THREE);
            for (int k = 1; k <= 8; k++) {
                Bounds.due("seen", b.seen(0, 0, 1, true), k);
                Bounds.due("count", b.count(4), k);
            }
            Bounds.due("a ninth", b.seen(0, 0, 1, true), FULL);
            Bounds.due("count", b.count(4), 8);
            // The eighth counts, a ninth does not: it would leave no b to 0, who is MEEK.
            b.seen(0, 0, 1, false);
            Bounds.due("the ninth is not seen", b.fits(0, 0), 3);
            b.forget();
            for (int k = 1; k <= 7; k++) {
                b.seen(0, 0, 1, true);
            }
            Bounds.due("the eighth", b.seen(0, 0, 1, false), 8);
            Bounds.due("the eighth is seen", b.fits(0, 0), 0);
        });
        Bounds.sentence("27: seen", "SEEN: how many. BAD (x and y unlike); FULL.", () -> {
            for (boolean agreed : new boolean[] {false, true}) {
                Bounds.sizes((meek, n, ring) -> {
                    Bounds.between("seen i", meek, (b, v) -> b.seen(v[0], 0, 1, agreed), Bounds.ends(0, n - 1));
                    Bounds.between("seen from the first", meek, (b, v) -> b.seen(0, 0, v[0], agreed), Bounds.ends(1, n - 1));
                    Bounds.between("seen from the last", meek, (b, v) -> b.seen(0, n - 1, v[0], agreed), Bounds.ends(0, n - 2));
                    Bounds.between("seen to the first", meek, (b, v) -> b.seen(0, v[0], 0, agreed), Bounds.ends(1, n - 1));
                    Bounds.between("seen to the last", meek, (b, v) -> b.seen(0, v[0], n - 1, agreed), Bounds.ends(0, n - 2));
                    for (int x = 0; x < n; x++) {
                        int at = x;
                        Bounds.unchanged("seen from " + x + " to " + x, meek, b -> b.seen(0, at, at, agreed), BAD);
                    }
                });
                Bounds.unchanged("seen behind eight", Bounds::full, b -> b.seen(0, 0, 1, agreed), FULL);
                Bounds.unchanged("seen behind eight", Bounds::full, b -> b.seen(2, 2, 0, agreed), FULL);
                Bounds.unchanged("seen behind eight, alike", Bounds::full, b -> b.seen(0, 1, 1, agreed), BAD);
                Bounds.between("seen behind eight", Bounds::full, (b, v) -> b.seen(v[0], v[1], 1, agreed), Bounds.ends(0, 2),
                    Bounds.ends(2, 2));
            }
        });
        Bounds.sentence("28: forget", "Nothing is SEEN: how many were.", () -> {
            Bounds.unchanged("forget of none", Bounds::fresh, BothWould::forget, 0);
            BothWould b = Bounds.laid(Bounds.MEEK_THREE);
            b.seen(0, 0, 1, false);
            Bounds.due("forget of one", b.forget(), 1);
            Bounds.due("forget again", b.forget(), 0);
            Bounds.due("all fit again", b.fits(0, 0), 3);
            b = Bounds.full();
            Bounds.due("forget of eight", b.forget(), 8);
            int[] counts = {3, 2, 2, 12, 0, 8, 2, 300};
            for (int what = 0; what < 8; what++) {
                Bounds.due("count(" + what + ")", b.count(what), counts[what]);
            }
            Bounds.due("room again", b.seen(0, 0, 1, true), 1);
        });
    }

    // How many b fit one who is asked to go from x to y, of n, and the lowest.
    private static void fitsDue(String person, int n, String more, int[] xy, boolean agreed, int many, int lowest) {
        BothWould b = Bounds.laid(person + "p0,0,0;".repeat(n - 1) + more);
        b.seen(0, xy[0], xy[1], agreed);
        String call = person + " of " + n + " " + more + " from " + xy[0] + " to " + xy[1] + " " + agreed;
        Bounds.due("how many fit " + call, b.fits(0, 0), many);
        Bounds.due("the lowest that fits " + call, b.fits(0, 1), lowest);
    }

    private static void fits() {
        Bounds.sentence("SEEN", "(with nobody beside to like or not)", () -> {
            String hates = "l0,1,0;l0,2,99;l0,3,0;";
            fitsDue("p0,5,0;", 4, hates, new int[] {0, 1}, true, 3, 1);
            fitsDue("p0,5,0;", 4, hates, new int[] {0, 1}, false, 1, 0);
            fitsDue("p0,0,1;", 4, hates, new int[] {3, 0}, true, 4, 0);
        });
        Bounds.sentence("SEEN", "FITS: of all b how many fit all that was SEEN of him, by his W and KIND;", () -> {
            int[] up = {0, 1};
            int[] far = {0, 5};
            // PLAIN: nearer; as far, or with W 0, he does not agree.
            fitsDue("p0,1,0;", 6, "", up, true, 5, 1);
            fitsDue("p0,1,0;", 6, "", up, false, 1, 0);
            fitsDue("p0,0,0;", 6, "", up, true, 0, NONE);
            fitsDue("p0,0,0;", 6, "", up, false, 6, 0);
            fitsDue("p0,1,0;", 3, "", new int[] {0, 2}, true, 1, 2);
            // WILLING: from the middle between both, and with W 0, he does.
            fitsDue("p0,1,1;", 3, "", new int[] {0, 2}, true, 2, 1);
            fitsDue("p0,0,1;", 6, "", far, true, 6, 0);
            fitsDue("p0,0,1;", 6, "", far, false, 0, NONE);
            // GREEDY: 10 are enough, 9 are not, by W and by steps.
            fitsDue("p0,10,2;", 6, "", up, true, 5, 1);
            fitsDue("p0,9,2;", 6, "", up, true, 0, NONE);
            fitsDue("p0,5,2;", 6, "", new int[] {0, 2}, true, 4, 2);
            fitsDue("p0,2,2;", 6, "", far, true, 1, 5);
            fitsDue("p0,1,2;", 6, "", far, true, 0, NONE);
            // FOOL and MEEK: whatever b.
            fitsDue("p0,20,3;", 6, "", far, true, 0, NONE);
            fitsDue("p0,20,3;", 6, "", far, false, 6, 0);
            fitsDue("p0,20,4;", 6, "", far, true, 6, 0);
            fitsDue("p0,20,4;", 6, "", far, false, 0, NONE);
            // In a RING: 0, 5 and 4 are nearer to 0, 1, 2 and 3 to 1; from the last to the first one step.
            fitsDue("p0,1,0;", 6, "r1;", up, true, 3, 1);
            fitsDue("p0,1,0;", 6, "r1;", far, true, 3, 3);
            fitsDue("p0,1,0;", 6, "r1;", new int[] {5, 0}, true, 3, 0);
            fitsDue("p0,1,0;", 2, "r1;", up, true, 1, 1);
        });
        Bounds.sentence("SEEN", "PERSON i, asked to go from PLACE x to y", () -> {
            // From x to y and from y to x are not the same, side by side or not.
            fitsDue("p0,1,0;", 6, "", new int[] {2, 4}, true, 2, 4);
            fitsDue("p0,1,0;", 6, "", new int[] {4, 2}, true, 3, 0);
            fitsDue("p0,1,1;", 6, "", new int[] {2, 4}, true, 3, 3);
            fitsDue("p0,1,1;", 6, "", new int[] {4, 2}, true, 4, 0);
            fitsDue("p0,1,0;", 6, "", new int[] {5, 0}, true, 3, 0);
            fitsDue("p0,1,0;", 6, "", new int[] {4, 5}, true, 1, 5);
        });
        Bounds.sentence("SEEN", "agreed or not. FITS: of all b how many fit", () -> {
            // What fits a yes does not fit a no: together they are all.
            for (int x = 0; x < 6; x++) {
                for (int y = 0; y < 6; y++) {
                    if (x != y) {
                        BothWould yes = Bounds.laid("p0,5,2;" + "p0,0,0;".repeat(5));
                        yes.seen(0, x, y, true);
                        BothWould not = Bounds.laid("p0,5,2;" + "p0,0,0;".repeat(5));
                        not.seen(0, x, y, false);
                        Bounds.due("yes and no from " + x + " to " + y, yes.fits(0, 0) + not.fits(0, 0), 6);
                        yes.seen(0, x, y, false);
                        Bounds.due("both from " + x + " to " + y, yes.fits(0, 0), 0);
                    }
                }
            }
        });
        Bounds.sentence("SEEN", "by his W and KIND; the lowest; none.", () -> {
            fitsDue("p0,1,0;", 6, "", new int[] {0, 5}, true, 3, 3);
            fitsDue("p0,1,0;", 6, "", new int[] {4, 5}, true, 1, 5);
            fitsDue("p0,1,0;", 6, "", new int[] {1, 0}, true, 1, 0);
            fitsDue("p0,0,0;", 6, "", new int[] {1, 0}, true, 0, NONE);
        });
        Bounds.sentence("SEEN", "all that was SEEN of him", () -> {
            BothWould b = Bounds.laid("p0,1,0;p0,1,0;p0,1,0;");
            b.seen(1, 0, 1, true);
            b.seen(1, 1, 0, true);
            Bounds.due("of another one", b.fits(0, 0), 3);
            Bounds.due("both of him", b.fits(1, 0), 0);
            Bounds.due("both of him", b.fits(1, 1), NONE);
            b.seen(0, 0, 1, true);
            b.seen(0, 2, 1, true);
            Bounds.due("both leave one", b.fits(0, 0), 1);
            Bounds.due("both leave one", b.fits(0, 1), 1);
            b.change(0);
            Bounds.due("wherever he is", b.fits(0, 0), 1);
        });
        Bounds.sentence("29: fits", "FITS: how many (what = 0), the lowest (1; NONE). BAD.", () -> {
            Bounds.sizes((meek, n, ring) -> {
                Bounds.between("fits", meek, (b, v) -> b.fits(v[0], v[1]), Bounds.ends(0, n - 1), Bounds.ends(0, 1));
                Bounds.due("nothing seen", meek.get().fits(n - 1, 0), n);
                Bounds.due("nothing seen", meek.get().fits(n - 1, 1), 0);
            });
            Bounds.between("fits, none", () -> noneFits(), (b, v) -> b.fits(v[0], v[1]), Bounds.ends(0, 1), Bounds.ends(0, 1));
            Bounds.unchanged("fits, none", () -> noneFits(), b -> b.fits(0, 0), 0);
            Bounds.unchanged("fits, none", () -> noneFits(), b -> b.fits(0, 1), NONE);
            Bounds.unchanged("fits", Bounds::busy, b -> b.fits(0, 0), 2);
            Bounds.unchanged("fits", Bounds::busy, b -> b.fits(0, 1), 1);
        });
    }

    private static BothWould noneFits() {
        BothWould b = Bounds.laid(Bounds.MEEK_TWO);
        b.seen(0, 0, 1, false);
        return b;
    }

    // ---- MEAN

    private static void meanDue(BothWould b, int i, int n, int above, int below) {
        Bounds.due("above of mean(" + i + ", " + n + ")", b.mean(i, n, 0), MEAN + above);
        Bounds.due("below of mean(" + i + ", " + n + ")", b.mean(i, n, 1), below);
    }

    private static void means() {
        Bounds.sentence("CHANCE", "By CHANCE on each evening one of all CHANGES, each alike likely, is asked for, and done if it SUITS.", () -> {
            // Of a ROW of two there is one CHANGE, of a RING two, of the same two.
            meanDue(Bounds.laid("p1,5,0;p0,5,0;"), 0, 1, 100, 1);
            meanDue(Bounds.laid("p1,5,0;p0,5,0;r1;"), 0, 1, 100, 1);
            meanDue(Bounds.laid("p0,1,4;p0,0,4;"), 0, 1, 99, 1);
            meanDue(Bounds.laid("p0,1,4;p0,0,4;r1;"), 0, 5, 99, 1);
            meanDue(Bounds.laid("p0,1,4;p0,0,4;r1;"), 0, 6, 100, 1);
            // One that does not suit is asked for in vain: nothing is done.
            meanDue(Bounds.laid(Bounds.fools(6, true)), 5, 6, 100, 1);
            // The last CHANGE of a RING is asked for like the others: 0 goes to 2 by one of three.
            meanDue(Bounds.laid("p2,1,0;p1,20,3;p0,1,0;r1;"), 0, 1, 3 * 99 + 1, 3);
            // A ROUND is never asked for.
            meanDue(Bounds.laid(Bounds.ONLY_ROUND), 0, 6, 95, 1);
        });
        Bounds.sentence("CHANCE", "MEAN of a PERSON behind n (0 to 6) evenings from now:", () -> {
            // One of two CHANGES suits, once; it is not yet done by 1 in 2 to the n.
            BothWould b = Bounds.laid("p1,1,0;p0,1,0;p2,0,3;");
            int below = 1;
            for (int n = 0; n <= 6; n++) {
                meanDue(b, 0, n, 100 * below - 1, below);
                below *= 2;
            }
            Bounds.due("n of 7", b.mean(0, 7, 0), BAD);
            Bounds.due("n of -1", b.mean(0, -1, 1), BAD);
            b.change(0);
            meanDue(b, 0, 0, 100, 1);
            meanDue(b, 0, 6, 100, 1);
        });
        Bounds.sentence("CHANCE", "the mean of his WORTH, in lowest terms (above can be less than 0).", () -> {
            // One of five, or six, CHANGES suits, once: 100 less 4 to the 6th by 5 to the 6th, or so.
            String swap = "p1,1,0;p0,1,0;p0,0,3;p0,0,3;p0,0,3;p0,0,3;";
            meanDue(Bounds.laid(swap), 0, 6, 1558404, 15625);
            meanDue(Bounds.laid(swap + "r1;"), 0, 6, 4649975, 46656);
            // Beside 1, a FOOL, comes 3 for 2: from -80 to -79 in a ROW, from 198 to 197 in a RING.
            String beside = "p0,0,3;p5,20,3;p3,1,0;p2,1,0;p0,0,3;p0,0,3;l1,0,0;l1,2,0;l1,3,1;";
            meanDue(Bounds.laid(beside), 1, 0, -80, 1);
            meanDue(Bounds.laid(beside), 1, 6, -1238471, 15625);
            beside = "p0,0,3;p1,20,3;p3,1,0;p2,1,0;p0,0,3;p0,0,3;l1,0,99;l1,2,99;l1,3,98;r1;";
            meanDue(Bounds.laid(beside), 1, 0, 198, 1);
            meanDue(Bounds.laid(beside), 1, 6, 9206857, 46656);
            // A mean of 0 is 0 by 1; one below 0 is in lowest terms, too: -75 by 9.
            meanDue(Bounds.laid("p5,20,0;" + "p0,0,3;".repeat(5)), 0, 6, 0, 1);
            meanDue(Bounds.laid("p3,20,3;p2,1,0;p1,1,0;p3,0,3;l0,1,0;l0,2,3;"), 0, 2, -25, 3);
        });
        Bounds.sentence("30: mean", "MEAN: above and 100000000 (part = 0), below (1). BAD.", () -> {
            Bounds.sizes((meek, n, ring) -> {
                if (n == 2 || n == 6 && ring) {
                    Bounds.between("mean", meek, (b, v) -> b.mean(v[0], v[1], v[2]), Bounds.ends(0, n - 1), Bounds.ends(0, 6),
                        Bounds.ends(0, 1));
                } else {
                    Bounds.between("mean", meek, (b, v) -> b.mean(v[0], 1, 0), Bounds.ends(0, n - 1));
                }
            });
            // He is at 98, and at 100 behind a CHANGE that is not yet done by 1 in 64: 6398 by 64.
            Bounds.unchanged("mean", Bounds::busy, b -> b.mean(0, 6, 0), MEAN + 3199);
            Bounds.unchanged("mean", Bounds::busy, b -> b.mean(0, 6, 1), 32);
            Bounds.unchanged("mean", Bounds::full, b -> b.mean(2, 6, 1), 1);
        });
    }

    // ---- KEPT

    private static void kept() {
        Bounds.sentence("KEPT", "KEPT are arrangements: 2 at most.", () -> {
            BothWould b = Bounds.laid(Bounds.MEEK_THREE);
            Bounds.due("one", b.keep(), 1);
            Bounds.due("the same once more", b.keep(), 2);
            Bounds.due("a third", b.keep(), FULL);
            b.change(0);
            Bounds.due("another one as the third", b.keep(), FULL);
            Bounds.due("back", b.back(), 1);
            Bounds.dueRow("back", b, "0 1 2");
            Bounds.due("room for one", b.keep(), 2);
            Bounds.due("no more", b.keep(), FULL);
        });
        Bounds.sentence("31: keep", "KEPT: how many. FULL.", () -> {
            Bounds.unchanged("keep behind two", Bounds::full, BothWould::keep, FULL);
            BothWould b = Bounds.busy();
            Bounds.due("keep", b.keep(), 2);
            int[] counts = {3, 2, 1, 3, 2, 1, 2, 32};
            for (int what = 0; what < 8; what++) {
                Bounds.due("count(" + what + ")", b.count(what), counts[what]);
            }
            Bounds.dueRow("keep", b, "1 0 2");
            Bounds.due("keeping can't be undone, the change can", b.undo(), 0);
            Bounds.dueRow("undo", b, "0 1 2");
            Bounds.due("it is kept still", b.count(6), 2);
            b.back();
            Bounds.dueRow("back", b, "1 0 2");
        });
        Bounds.sentence("32: back", "As KEPT last: how many are left; nothing is UNDONE then. NO.", () -> {
            Bounds.unchanged("back of none", Bounds::fresh, BothWould::back, NO);
            Bounds.unchanged("back of none, all else full", () -> emptied(Bounds.full()), BothWould::back, NO);
            BothWould b = Bounds.full();
            Bounds.dueRow("eleven changes", b, "0 2 1");
            Bounds.due("the last", b.back(), 1);
            Bounds.dueRow("the last", b, "2 1 0");
            Bounds.due("nothing can be undone", b.count(5), 0);
            Bounds.due("nothing can be undone", b.undo(), NO);
            b.change(0);
            Bounds.due("the first", b.back(), 0);
            Bounds.dueRow("the first", b, "2 0 1");
            Bounds.due("nothing can be undone", b.undo(), NO);
            b.change(0);
            Bounds.due("none is left", b.back(), NO);
            Bounds.due("the change can be undone still", b.undo(), 0);
            int[] counts = {3, 2, 2, 12, 8, 0, 0, 300};
            for (int what = 0; what < 8; what++) {
                Bounds.due("count(" + what + ")", b.count(what), counts[what]);
            }
        });
    }

    private static BothWould emptied(BothWould b) {
        b.back();
        b.back();
        for (int k = 0; k < 9; k++) {
            b.change(k % 2);
        }
        return b;
    }

    // ---- count

    private static void counts() {
        Bounds.sentence("33: count", "How many: 0 PERSONS, 1 CHANGES that there are, 2 that SUIT now, 3 of the told row, 4 SEEN, "
            + "5 that can be UNDONE, 6 KEPT, 7 bytes of THE TEXT. BAD.", () -> {
                Bounds.sizes((meek, n, ring) -> {
                    BothWould b = meek.get();
                    Bounds.due("persons", b.count(0), n);
                    Bounds.due("changes", b.count(1), changes(n, ring));
                    Bounds.due("all suit", b.count(2), changes(n, ring));
                    Bounds.due("none suits", Bounds.laid(Bounds.fools(n, ring)).count(2), 0);
                    for (int what = 3; what < 7; what++) {
                        Bounds.due("count(" + what + ") as laid", b.count(what), 0);
                    }
                    Bounds.between("count", meek, (c, v) -> c.count(v[0]), Bounds.ends(0, 7));
                });
                countsDue("new", Bounds.fresh(), 2, 1, 1, 0, 0, 0, 0, 0);
                countsDue("full", Bounds.full(), 3, 2, 2, 12, 8, 8, 2, 300);
                countsDue("busy", Bounds.busy(), 3, 2, 1, 3, 2, 1, 1, 32);
                countsDue("resting", Bounds.resting(), 3, 2, 0, 1, 0, 1, 1, 21);
                Bounds.between("count", Bounds::full, (c, v) -> c.count(v[0]), Bounds.ends(0, 7));
            });
    }

    private static void countsDue(String name, BothWould b, int... want) {
        for (int what = 0; what < 8; what++) {
            Bounds.due(name + ": count(" + what + ")", b.count(what), want[what]);
        }
    }

    // ---- BAD, NO, NONE, FULL

    private static void refusals() {
        Bounds.sentence("BAD", "BAD: a number is none that is told (PERSONS, PLACES, CHANGES: such as there are).", () -> {
            // A TEXT can tell of six, but two are laid: 2 is beyond all of them, from six on to two again.
            BothWould b = Bounds.laid(Bounds.meek(6, true));
            b.wipe();
            Bounds.write(b, Bounds.MEEK_TWO);
            b.lay();
            for (int k = 2; k < 6; k++) {
                int[] answers = {b.person(k, 0), b.likes(k, 0), b.likes(0, k), b.worth(k), b.at(k), b.suits(k, false), b.suits(k, true),
                    b.change(k), b.round(k), b.tell(k), b.rests(k), b.goingOn(k), b.comes(k, 0, 0), b.comes(0, k, 0), b.bars(k, 0),
                    b.bars(0, k), b.best(k), b.price(k, 0), b.deal(k), b.lie(k, 0), b.seen(k, 0, 1, true), b.seen(0, k, 1, true),
                    b.seen(0, 0, k, true), b.fits(k, 0), b.mean(k, 0, 0)};
                for (int a = 0; a < answers.length; a++) {
                    Bounds.due("answer " + a + " for " + k + " of two", answers[a], BAD);
                }
            }
            // A ROW of two has CHANGE 0 alone.
            Bounds.due("change(1)", b.change(1), BAD);
            Bounds.due("tell(1)", b.tell(1), BAD);
            Bounds.due("price(1, 0)", b.price(1, 0), BAD);
            Bounds.due("deal(1)", b.deal(1), BAD);
        });
        Bounds.sentence("BAD", "NO: not as things stand.", () -> {
            Bounds.unchanged("change", Bounds::resting, b -> b.change(0), NO);
            Bounds.unchanged("round", Bounds::resting, b -> b.round(0), NO);
            Bounds.unchanged("undo", Bounds::fresh, BothWould::undo, NO);
            Bounds.unchanged("back", Bounds::fresh, BothWould::back, NO);
            Bounds.unchanged("lay", Bounds::fresh, BothWould::lay, NO);
        });
        Bounds.sentence("BAD", "NONE: there is none.", () -> {
            Bounds.unchanged("fault", Bounds::full, BothWould::fault, NONE);
            Bounds.unchanged("judge", Bounds::full, BothWould::judge, NONE);
            Bounds.unchanged("rests", Bounds::full, b -> b.rests(1), NONE);
            Bounds.unchanged("goingOn", Bounds::full, b -> b.goingOn(1), NONE);
            Bounds.unchanged("longest", Bounds::full, BothWould::longest, NONE);
            Bounds.unchanged("shortest", Bounds::full, b -> b.shortest(1), NONE);
            Bounds.unchanged("comes", Bounds::resting, b -> b.comes(1, 0, 1), NONE);
            Bounds.unchanged("bars", Bounds::full, b -> b.bars(0, 0), NONE);
            Bounds.unchanged("price", () -> Bounds.laid(Bounds.fools(2, false)), b -> b.price(0, 1), NONE);
            Bounds.unchanged("lie", Bounds::full, b -> b.lie(1, 1), NONE);
            Bounds.unchanged("fits", () -> noneFits(), b -> b.fits(0, 1), NONE);
        });
        Bounds.sentence("BAD", "FULL. Of several the first; nothing changes then.", () -> {
            Bounds.unchanged("write", Bounds::full, b -> b.write(1, 'x'), FULL);
            Bounds.unchanged("tell", Bounds::full, b -> b.tell(0), FULL);
            Bounds.unchanged("seen", Bounds::full, b -> b.seen(0, 0, 1, true), FULL);
            Bounds.unchanged("keep", Bounds::full, BothWould::keep, FULL);
        });
        Bounds.sentence("BAD", "Of several the first", () -> {
            for (int k : new int[] {MIN, -2, 9, MAX}) {
                Bounds.unchanged("BAD ahead of FULL, write", Bounds::full, b -> b.write(k, 'x'), BAD);
                Bounds.unchanged("BAD ahead of FULL, tell", Bounds::full, b -> b.tell(k), BAD);
                Bounds.unchanged("BAD ahead of FULL, seen", Bounds::full, b -> b.seen(k, 0, 1, true), BAD);
                Bounds.unchanged("BAD ahead of FULL, seen", Bounds::full, b -> b.seen(0, k, 1, true), BAD);
                Bounds.unchanged("BAD ahead of FULL, seen", Bounds::full, b -> b.seen(0, 0, k, true), BAD);
                Bounds.unchanged("BAD ahead of NO, change", Bounds::resting, b -> b.change(k), BAD);
                Bounds.unchanged("BAD ahead of NO, round", Bounds::resting, b -> b.round(k), BAD);
                Bounds.unchanged("BAD ahead of NONE, rests", Bounds::full, b -> b.rests(k), BAD);
                Bounds.unchanged("BAD ahead of NONE, goingOn", Bounds::full, b -> b.goingOn(k), BAD);
                Bounds.unchanged("BAD ahead of NONE, shortest", Bounds::full, b -> b.shortest(k), BAD);
                Bounds.unchanged("BAD ahead of NONE, comes", Bounds::resting, b -> b.comes(1, 0, k), BAD);
                Bounds.unchanged("BAD ahead of NONE, bars", Bounds::full, b -> b.bars(0, k), BAD);
                Bounds.unchanged("BAD ahead of NONE, price", () -> Bounds.laid(Bounds.fools(2, false)), b -> b.price(0, k), BAD);
                Bounds.unchanged("BAD ahead of NONE, lie", Bounds::full, b -> b.lie(0, k), BAD);
                Bounds.unchanged("BAD ahead of NONE, fits", () -> noneFits(), b -> b.fits(0, k), BAD);
            }
        });
    }
}
