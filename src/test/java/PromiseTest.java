// Each promise of the document by cases worked out by hand.
public final class PromiseTest {
    private static final int BAD = BothWould.BAD, NO = BothWould.NO, FULL = BothWould.FULL, NONE = BothWould.NONE;
    private static final int MIN = Integer.MIN_VALUE, MAX = Integer.MAX_VALUE;

    private static final String MEEK_TWO = "p0,0,4;p0,0,4;";
    private static final String MEEK_THREE = "p0,0,4;p0,0,4;p0,0,4;";
    private static final String FOOLS = "p0,0,3;p1,0,3;p2,0,3;p3,0,3;p4,0,3;p5,0,3;";
    // 0 wants PLACE 2, 1 is MEEK, 2 wants PLACE 1. CHANGE 1 leads to REST at once (0 2 1); CHANGE 0
    // leads to 1 0 2, from where CHANGE 1 leads to REST (1 2 0). At REST are just these two.
    private static final String TWO_WAYS = "p2,2,0;p1,0,4;p1,3,0;";
    // No CHANGE suits (1 loses by CHANGE 0, the GREEDY gains but 5 by CHANGE 1), but the ROUND does.
    private static final String ONLY_ROUND = "p1,5,0;p2,5,0;p0,5,2;";

    private static int wrong = 0;

    private static void due(String call, int got, int want) {
        if (got != want) {
            wrong++;
            System.out.println(call + " answered " + got + ", due is " + want);
        }
    }

    private static void write(BothWould b, String text) {
        for (int k = 0; k < text.length(); k++) {
            b.write(1, text.charAt(k));
        }
    }

    private static BothWould laid(String text) {
        BothWould b = new BothWould();
        write(b, text);
        int persons = b.lay();
        if (persons < 2) {
            wrong++;
            System.out.println(text + " is not laid: " + persons);
        }
        return b;
    }

    // The arrangement in figures, PLACE 0 first.
    private static void row(String call, BothWould b, int... who) {
        for (int p = 0; p < who.length; p++) {
            due(call + ": at(" + p + ")", b.at(p), who[p]);
        }
    }

    public static void main(String[] args) {
        p01NewObject();
        p02Write();
        p03Wipe();
        p04Fault();
        p05Lay();
        p06Person();
        p07Likes();
        p08Worth();
        p09At();
        p10Suits();
        p11Change();
        p12Round();
        p13Undo();
        p14to16ToldRow();
        p17Rests();
        p18GoingOn();
        p19Longest();
        p20Shortest();
        p21Comes();
        p22Bars();
        p23Best();
        p24Price();
        p25Deal();
        p26Lie();
        p27to28Seen();
        p29Fits();
        p30Mean();
        p31to32Keep();
        p33Count();
        System.out.println(wrong == 0 ? "all promises hold" : wrong + " answers are not as due");
        if (wrong != 0) {
            System.exit(1);
        }
    }

    private static void p01NewObject() {
        BothWould b = new BothWould();
        int[] counts = {2, 1, 1, 0, 0, 0, 0, 0};
        for (int what = 0; what < 8; what++) {
            due("1: count(" + what + ")", b.count(what), counts[what]);
        }
        int[][] people = {{1, 5, 0, 0}, {0, 5, 0, 1}};
        for (int i = 0; i < 2; i++) {
            for (int what = 0; what < 4; what++) {
                due("1: person(" + i + ", " + what + ")", b.person(i, what), people[i][what]);
            }
        }
        due("1: likes", b.likes(0, 1), 50);
        due("1: a row, no ring", b.suits(1, false), BAD);
        due("1: fault", b.fault(), NONE);
        due("1: lay of no text", b.lay(), NO);
        due("1: undo", b.undo(), NO);
        due("1: back", b.back(), NO);
        row("1", b, 0, 1);
    }

    private static void p02Write() {
        BothWould b = new BothWould();
        due("2: n = 0", b.write(0, 1L), BAD);
        due("2: n = 9", b.write(9, 1L), BAD);
        due("2: n = -1", b.write(-1, 1L), BAD);
        due("2: n least", b.write(MIN, 1L), BAD);
        due("2: n most", b.write(MAX, 1L), BAD);
        due("2: nothing was written", b.count(7), 0);
        due("2: p1,5,0;", b.write(7, 0x70312c352c303bL), 7);
        due("2: what is above the bytes is left out", b.write(7, 0xff70302c352c313bL), 14);
        due("2: r", b.write(1, 0x1234567890abcd72L), 15);
        due("2: 1;", b.write(2, 0x313bL), 17);
        due("2: no fault", b.fault(), NONE);
        due("2: lay", b.lay(), 2);
        due("2: kind", b.person(1, 2), 1);
        due("2: ring", b.count(1), 2);
        due("2: eight", b.write(8, 0x6c302c312c36303bL), 25);
        due("2: lay", b.lay(), 2);
        due("2: liking", b.likes(0, 1), 60);
        due("2: negative bytes", b.write(8, -1L), 33);
        due("2: their fault", b.fault(), 25);
        b.wipe();
        for (int k = 1; k <= 37; k++) {
            due("2: filling", b.write(8, 0L), 8 * k);
        }
        due("2: 304", b.write(8, 0L), FULL);
        due("2: 301", b.write(5, 0L), FULL);
        due("2: unchanged", b.count(7), 296);
        due("2: 300", b.write(4, 0L), 300);
        due("2: full", b.write(1, 0L), FULL);
        due("2: bad ahead of full", b.write(9, 0L), BAD);
        due("2: bad ahead of full", b.write(0, 0L), BAD);
    }

    private static void p03Wipe() {
        BothWould b = laid(MEEK_THREE);
        b.change(0);
        due("3: wipe", b.wipe(), 21);
        due("3: wipe", b.wipe(), 0);
        due("3: empty", b.count(7), 0);
        due("3: no fault", b.fault(), NONE);
        due("3: nothing else is wiped", b.count(0), 3);
        row("3", b, 1, 0, 2);
        for (int k = 0; k < 300; k++) {
            b.write(1, 'p');
        }
        due("3: wipe of a full one", b.wipe(), 300);
        due("3: room again", b.write(8, 0L), 8);
    }

    private static void p04Fault() {
        String[] right = {"", "p0,0,0;", "p5,20,4;", "p05,09,04;", "r0;", "r1;", "r1;r0;", "r01;", "l0,1,0;", "l5,4,99;",
            "l0,1,00;l0,1,5;", "l00,01,50;", "p0,0,0;p0,0,0;p0,0,0;p0,0,0;p0,0,0;p0,0,0;", "l3,4,50;r1;p1,2,3;"};
        for (String t : right) {
            BothWould b = new BothWould();
            write(b, t);
            due("4: fault of " + t, b.fault(), NONE);
        }
        String[] first = {"p6,0,0;", "p0,21,0;", "p0,0,5;", "p0,99,0;", "p10,0,0;", "p0,0,0", "p0,0;", "p0,0,0,0;", "p0,0,0,",
            "p000,0,0;", "p0,000,0;", "p0,0,000;", "p,0,0;", "p0,,0;", "p0,0,;", "p;", "p", "P0,0,0;", "x", ";", "0", ",", " ",
            "p 0,0,0;", "p-1,0,0;", "p0;0;0;", "p0,0,0:", "p0.0,0;", "r2;", "r10;", "r;", "r", "r1", "r1,", "r001;", "r1,1;",
            "l0,0,50;", "l6,0,50;", "l0,6,50;", "l0,1;", "l0,1,100;", "l0,1,50", "l5,5,0;", "l0,00,1;", "\0", "\u00f0"};
        for (String t : first) {
            for (int ahead = 0; ahead < 2; ahead++) {
                BothWould b = new BothWould();
                write(b, ahead == 0 ? t : "p1,10,0;r1;" + t);
                due("4: fault of " + t, b.fault(), 11 * ahead);
                write(b, "x");
                due("4: the first fault of " + t, b.fault(), 11 * ahead);
            }
        }
        BothWould b = new BothWould();
        write(b, "p0,0,0;r1;p0,0,0;p0,0,0;p0,0,0;p0,0,0;p0,0,0;p0,0,0;");
        due("4: a seventh", b.fault(), 45);
        due("4: asked again", b.fault(), 45);
        due("4: text stays", b.count(7), 52);
    }

    private static void p05Lay() {
        String[] no = {"", "p0,0,0;", "p0,0,0;p2,0,0;", "p0,0,0;p1,0,0", "p0,0,0;p1,0,0;l0,2,50;", "p0,0,0;p1,0,0;l2,1,50;",
            "p0,0,0;p1,0,0;x", "r1;", "p5,0,0;p0,0,0;p0,0,0;p0,0,0;p0,0,0;", "l0,1,60;p0,0,0;"};
        for (String t : no) {
            BothWould b = laid(MEEK_THREE);
            b.change(0);
            b.tell(1);
            b.seen(0, 0, 1, true);
            b.keep();
            b.wipe();
            write(b, t);
            due("5: lay of " + t, b.lay(), NO);
            due("5: nothing changes", b.count(0), 3);
            row("5: nothing changes", b, 1, 0, 2);
            for (int what = 3; what < 7; what++) {
                due("5: nothing changes, count(" + what + ")", b.count(what), 1);
            }
            due("5: text stays", b.count(7), t.length());
        }
        BothWould b = laid(MEEK_THREE);
        b.rests(-1);
        b.change(0);
        b.tell(1);
        b.seen(0, 0, 1, true);
        b.keep();
        due("5: laid again", b.lay(), 3);
        row("5", b, 0, 1, 2);
        for (int what = 3; what < 7; what++) {
            due("5: count(" + what + ")", b.count(what), 0);
        }
        due("5: text stays", b.count(7), 21);
        b.wipe();
        write(b, "r1;l3,0,70;p3,1,2;l0,3,10;p2,20,3;r0;p1,0,1;p0,3,4;l3,0,80;l0,3,20;");
        due("5: items in any order", b.lay(), 4);
        due("5: the last r", b.count(1), 3);
        due("5: the last l", b.likes(3, 0), 80);
        due("5: the last l", b.likes(0, 3), 20);
        due("5: others without", b.likes(0, 1), 50);
        b.wipe();
        write(b, MEEK_TWO);
        due("5: two", b.lay(), 2);
        due("5: no liking is left", b.likes(0, 1), 50);
        due("5: rests are those of what is laid", b.rests(-1), 0);
        b.wipe();
        write(b, FOOLS);
        due("5: six", b.lay(), 6);
        due("5: rests are those of what is laid", b.rests(-1), 720);
    }

    private static void p06Person() {
        BothWould b = laid("p2,20,1;p0,7,4;p1,0,4;");
        int[][] people = {{2, 20, 1, 0}, {0, 7, 4, 1}, {1, 0, 4, 2}};
        for (int i = 0; i < 3; i++) {
            for (int what = 0; what < 4; what++) {
                due("6: person(" + i + ", " + what + ")", b.person(i, what), people[i][what]);
            }
        }
        b.change(1);
        due("6: moved", b.person(1, 3), 2);
        due("6: moved", b.person(2, 3), 1);
        int[] bad = {-1, 3, 6, MIN, MAX};
        for (int i : bad) {
            due("6: person(" + i + ", 0)", b.person(i, 0), BAD);
        }
        due("6: what", b.person(0, 4), BAD);
        due("6: what", b.person(0, -1), BAD);
        due("6: what", b.person(0, MIN), BAD);
    }

    private static void p07Likes() {
        BothWould b = laid("p0,0,0;p0,0,0;p0,0,0;l0,1,99;l1,0,0;l2,1,49;");
        due("7", b.likes(0, 1), 99);
        due("7", b.likes(1, 0), 0);
        due("7", b.likes(2, 1), 49);
        due("7", b.likes(1, 2), 50);
        due("7: himself", b.likes(1, 1), BAD);
        due("7", b.likes(3, 0), BAD);
        due("7", b.likes(0, 3), BAD);
        due("7", b.likes(-1, 0), BAD);
        due("7", b.likes(0, -1), BAD);
        due("7", b.likes(MIN, MAX), BAD);
    }

    private static void p08Worth() {
        // A row: 0 at an end has one beside, 1 has both.
        BothWould b = laid("p2,10,0;p0,4,2;p1,3,1;l0,1,60;l2,0,40;l1,0,55;l1,2,43;");
        due("8: 100 - 20 + 10", b.worth(0), 1090);
        due("8: 100 - 4 + 5 - 7", b.worth(1), 1094);
        due("8: 100 - 3", b.worth(2), 1097);
        due("8", b.worth(3), BAD);
        due("8", b.worth(-1), BAD);
        due("8", b.worth(MAX), BAD);
        // A ring of four: 3 is beside 0, one step away; PLACE 2 is two away either way.
        b = laid("p3,7,0;p3,5,0;p2,0,0;p0,9,0;l0,3,60;l0,1,45;l0,2,99;r1;");
        due("8: 100 - 7 + 10 - 5", b.worth(0), 1098);
        due("8: 100 - 10", b.worth(1), 1090);
        due("8: 100 - 9", b.worth(3), 1091);
        // A ring of two: the other is beside once.
        b = laid("p0,0,0;p0,3,0;l0,1,70;l1,0,20;r1;");
        due("8: 100 + 20", b.worth(0), 1120);
        due("8: 100 - 3 - 30", b.worth(1), 1067);
        b = laid("p0,0,0;p0,3,0;l0,1,70;l1,0,20;");
        due("8: a row of two", b.worth(0), 1120);
        // A ring of three: both others are beside.
        b = laid("p0,0,0;p0,3,0;p0,4,0;l0,1,70;l0,2,51;r1;");
        due("8: 100 + 20 + 1", b.worth(0), 1121);
        due("8: one step", b.worth(2), 1096);
        // The least: 5 steps of 20 in a row of six, and one beside him whom he can't stand.
        b = laid("p5,20,0;p0,0,0;p0,0,0;p0,0,0;p0,0,0;p0,0,0;l0,1,0;");
        due("8: 100 - 100 - 50", b.worth(0), 950);
    }

    private static void p09At() {
        BothWould b = laid(MEEK_THREE);
        row("9", b, 0, 1, 2);
        b.change(1);
        row("9", b, 0, 2, 1);
        due("9", b.at(3), BAD);
        due("9", b.at(-1), BAD);
        due("9", b.at(MIN), BAD);
        due("9", b.at(MAX), BAD);
    }

    // Person 0 goes to PLACE 1 and gains what is asked for; the other always agrees.
    private static void agrees(String person, int want) {
        BothWould b = laid(person + "p0,0,4;");
        due("10: suits for " + person, b.suits(0, false), want);
        b = laid("p0,0,4;" + person.replace("p1", "p2").replace("p0", "p1").replace("p2", "p0"));
        due("10: suits for the other one, " + person, b.suits(0, false), want);
    }

    private static void p10Suits() {
        agrees("p1,1,0;", 1);
        agrees("p1,0,0;", 0);
        agrees("p0,1,0;", 0);
        agrees("p1,0,1;", 1);
        agrees("p0,0,1;", 1);
        agrees("p0,1,1;", 0);
        agrees("p1,10,2;", 1);
        agrees("p1,9,2;", 0);
        agrees("p1,20,3;", 0);
        agrees("p0,20,4;", 1);
        BothWould b = laid(ONLY_ROUND);
        due("10: change 0", b.suits(0, false), 0);
        due("10: change 1", b.suits(1, false), 0);
        due("10: round", b.suits(0, true), 1);
        due("10: no round 1 in a row of three", b.suits(1, true), BAD);
        due("10: no change 2 in a row of three", b.suits(2, false), BAD);
        due("10", b.suits(-1, false), BAD);
        due("10", b.suits(-1, true), BAD);
        due("10", b.suits(MAX, false), BAD);
        due("10", b.suits(MAX, true), BAD);
        due("10", b.suits(MIN, true), BAD);
        b = laid("p1,5,0;p2,5,0;p0,4,2;");
        due("10: one of three is not content: 8 is less than 10", b.suits(0, true), 0);
        b = laid("p1,5,0;p1,5,0;p0,5,2;");
        due("10: the middle one is not content", b.suits(0, true), 0);
        b = laid("p0,5,0;p2,5,0;p0,5,2;");
        due("10: the first one is not content", b.suits(0, true), 0);
        b = laid(MEEK_THREE + "r1;");
        due("10: ring, last change", b.suits(2, false), 1);
        due("10: ring, last round", b.suits(2, true), 1);
        due("10: ring", b.suits(3, false), BAD);
        due("10: ring", b.suits(3, true), BAD);
        b = laid(MEEK_THREE + "p0,0,4;");
        due("10: row of four", b.suits(1, true), 1);
        due("10: row of four", b.suits(2, true), BAD);
        b = laid(MEEK_TWO + "r1;");
        due("10: ring of two", b.suits(1, false), 1);
        due("10: ring of two", b.suits(2, false), BAD);
        due("10: no round of two", b.suits(0, true), BAD);
        // Likings of those who come to stand beside: 0 leaves 1's side of the row for 2's.
        b = laid("p0,0,0;p0,0,4;p0,0,0;l0,2,51;");
        due("10: he comes beside 2", b.suits(0, false), 1);
        b = laid("p0,0,0;p0,0,4;p0,0,0;l0,1,51;");
        due("10: he is beside 1 ahead and behind", b.suits(0, false), 0);
    }

    private static void p11Change() {
        BothWould b = laid(MEEK_THREE + "r1;");
        due("11", b.change(0), 1);
        row("11", b, 1, 0, 2);
        due("11: the last with the first", b.change(2), 1);
        row("11", b, 2, 0, 1);
        due("11", b.change(3), BAD);
        due("11", b.change(-1), BAD);
        due("11", b.change(MIN), BAD);
        due("11: can be undone", b.count(5), 2);
        b = laid(TWO_WAYS);
        due("11", b.change(1), 2);
        due("11: at rest", b.change(0), NO);
        due("11: at rest", b.change(1), NO);
        due("11: no such one in a row", b.change(2), BAD);
        row("11", b, 0, 2, 1);
        due("11: no is not done", b.count(5), 1);
    }

    private static void p12Round() {
        BothWould b = laid(ONLY_ROUND);
        due("12", b.round(0), 2);
        row("12", b, 2, 0, 1);
        due("12: can be undone", b.count(5), 1);
        due("12: not again", b.round(0), NO);
        due("12", b.round(1), BAD);
        due("12", b.round(-1), BAD);
        row("12: nothing changed", b, 2, 0, 1);
        due("12: undone", b.undo(), 0);
        row("12: undone", b, 0, 1, 2);
        b = laid(MEEK_THREE + "p0,0,4;r1;");
        due("12: 3 goes to 0, 0 to 1, 1 to 3", b.round(3), 1);
        row("12", b, 3, 0, 2, 1);
        due("12: 2 goes to 3, 1 to 0, 3 to 2", b.round(2), 3);
        row("12", b, 1, 0, 3, 2);
        due("12", b.round(4), BAD);
        due("12", b.round(MAX), BAD);
        b = laid(MEEK_TWO + "r1;");
        due("12: two", b.round(0), BAD);
    }

    private static void p13Undo() {
        BothWould b = laid(MEEK_THREE);
        due("13: none yet", b.undo(), NO);
        b.change(0);
        b.round(0);
        b.change(1);
        row("13", b, 2, 0, 1);
        due("13", b.undo(), 2);
        row("13", b, 2, 1, 0);
        due("13", b.undo(), 1);
        row("13", b, 1, 0, 2);
        due("13", b.undo(), 0);
        row("13", b, 0, 1, 2);
        due("13", b.undo(), NO);
        // CHANGES 0, 1, 0, .. lead through all six and round again; of eleven the first three
        // (1 0 2, 1 2 0, 2 1 0) can't be undone.
        int[][] rows = {{0, 1, 2}, {1, 0, 2}, {1, 2, 0}, {2, 1, 0}, {2, 0, 1}, {0, 2, 1}};
        for (int k = 0; k < 11; k++) {
            b.change(k % 2);
            due("13: at most 8", b.count(5), Math.min(8, k + 1));
            row("13: forth", b, rows[(k + 1) % 6]);
        }
        for (int k = 7; k >= 0; k--) {
            due("13: back", b.undo(), k);
            row("13: back", b, rows[(k + 3) % 6]);
        }
        row("13", b, 2, 1, 0);
        due("13", b.undo(), NO);
        row("13", b, 2, 1, 0);
    }

    private static void p14to16ToldRow() {
        BothWould b = laid(TWO_WAYS);
        due("16: empty", b.judge(), NONE);
        due("14", b.tell(0), 1);
        due("16: all suit", b.judge(), NONE);
        due("14", b.tell(1), 2);
        due("16: all suit", b.judge(), NONE);
        due("14", b.tell(1), 3);
        due("16: the third does not", b.judge(), 2);
        row("16: nothing is done", b, 0, 1, 2);
        due("14", b.tell(2), BAD);
        due("14", b.tell(-1), BAD);
        due("14", b.tell(MAX), BAD);
        b.change(0);
        due("16: from now on", b.judge(), 0);
        b.undo();
        due("16: from now on", b.judge(), 2);
        for (int k = 4; k <= 12; k++) {
            due("14: more", b.tell(0), k);
        }
        due("14: full", b.tell(0), FULL);
        due("14: bad ahead of full", b.tell(2), BAD);
        due("14: twelve", b.count(3), 12);
        due("15", b.noRow(), 12);
        due("15", b.noRow(), 0);
        due("15: none", b.count(3), 0);
        due("16: none", b.judge(), NONE);
        due("14: room again", b.tell(1), 1);
        b = laid(MEEK_TWO + "r1;");
        due("14: ring", b.tell(1), 1);
        due("14: ring", b.tell(2), BAD);
        for (int k = 0; k < 11; k++) {
            b.tell(0);
        }
        due("16: twelve suit", b.judge(), NONE);
    }

    private static void p17Rests() {
        BothWould b = laid(TWO_WAYS);
        due("17", b.rests(-1), 2);
        due("17: 0 2 1", b.rests(0), 0);
        due("17: 0 2 1", b.rests(1), 2);
        due("17: 0 2 1", b.rests(2), 1);
        due("17", b.rests(3), BAD);
        due("17", b.rests(-2), BAD);
        due("17", b.rests(MIN), BAD);
        b.change(0);
        due("17: wherever one is", b.rests(-1), 2);
        due("17: wherever one is", b.rests(1), 2);
        b = laid(MEEK_THREE);
        due("17: nowhere", b.rests(-1), 0);
        due("17: nowhere", b.rests(0), NONE);
        due("17: bad ahead of none", b.rests(3), BAD);
        b = laid(FOOLS);
        due("17: everywhere", b.rests(-1), 720);
        for (int p = 0; p < 6; p++) {
            due("17: everywhere", b.rests(p), p);
        }
        // Only the last of all is one: each wants the PLACE that is his in it and is WILLING.
        b = laid("p2,1,0;p1,0,1;p0,1,0;");
        due("17: 0 wants 2, 2 wants 0", b.rests(0), 2);
        due("17: 2 1 0 alone, as 1 lets both by", b.rests(-1), 1);
    }

    private static void p18GoingOn() {
        BothWould b = laid(TWO_WAYS);
        due("18: change 0, change 1", b.goingOn(-1), 2);
        due("18", b.goingOn(0), 1);
        due("18", b.goingOn(1), 2);
        due("18", b.goingOn(2), 0);
        row("18: nothing is done", b, 0, 1, 2);
        due("18", b.goingOn(3), BAD);
        due("18", b.goingOn(-2), BAD);
        b.change(1);
        due("18: at rest", b.goingOn(-1), 0);
        due("18: at rest", b.goingOn(1), 2);
        b = laid(MEEK_TWO);
        due("18: for ever", b.goingOn(-1), NONE);
        due("18: for ever", b.goingOn(0), NONE);
        due("18: bad ahead of none", b.goingOn(2), BAD);
        // 2 is a FOOL, 0 and 1 go on for ever; lowest CHANGE alone.
        b = laid("p0,0,4;p0,0,4;p0,0,3;");
        due("18: for ever", b.goingOn(-1), NONE);
        // Three who want the right end let three by who want the left one: 9 CHANGES, in any order.
        b = laid("p5,1,0;p5,1,0;p5,1,0;p0,1,0;p0,1,0;p0,1,0;");
        due("18: three by three", b.goingOn(-1), 9);
        int[] end = {3, 4, 5, 0, 1, 2};
        for (int p = 0; p < 6; p++) {
            due("18: three by three", b.goingOn(p), end[p]);
        }
        due("18: three by three, at most", b.longest(), 9);
        due("18: three by three, at least", b.shortest(0), 9);
        due("18: three by three, the only one to begin with", b.shortest(1), 2);
    }

    private static void p19Longest() {
        BothWould b = laid(TWO_WAYS);
        due("19", b.longest(), 2);
        b.change(1);
        due("19: at rest", b.longest(), 0);
        b.undo();
        b.change(0);
        due("19: one is left", b.longest(), 1);
        due("19: for ever", laid(MEEK_TWO).longest(), NONE);
        // By CHANGE 0 first 0 stands between the two MEEK ones for good; by CHANGE 1 first these
        // two change for ever: there is an end and there is a way without one.
        b = laid("p1,5,0;p0,0,4;p0,0,4;");
        due("19: a way without end", b.longest(), NONE);
        due("19: though going on ends", b.goingOn(-1), 1);
        due("19: though the shortest ends", b.shortest(0), 1);
        // A circle that can't be come to does not count: behind CHANGE 0 there is REST.
        b.change(0);
        due("19: the circle is left behind", b.longest(), 0);
        // By CHANGE 1 over 0 2 1 to REST at 2 0 1; by CHANGE 0 to the same, but over 1 0 2, 1 2 0, 2 1 0.
        b = laid("p2,3,4;p2,2,1;p0,3,0;l1,2,43;");
        due("19: the longer way to the same end", b.longest(), 4);
        due("19: going on takes it", b.goingOn(-1), 4);
        due("19: the shorter one", b.shortest(0), 2);
        due("19: the shorter one", b.shortest(1), 1);
        // A ROUND leads to 2 0 1, CHANGES from there over 0 2 1 back to the first arrangement, to REST.
        b = laid("p2,4,0;p2,2,1;p2,0,1;l1,0,58;l0,1,44;");
        due("19: at rest as laid", b.longest(), 0);
        due("19: a round leads away", b.round(0), 2);
        due("19: and changes back", b.longest(), 2);
        due("19: to the first arrangement", b.goingOn(0), 0);
    }

    private static void p20Shortest() {
        BothWould b = laid(TWO_WAYS);
        due("20", b.shortest(0), 1);
        due("20: not the lowest that suits", b.shortest(1), 1);
        due("20", b.shortest(2), BAD);
        due("20", b.shortest(-1), BAD);
        b.change(0);
        due("20", b.shortest(0), 1);
        due("20", b.shortest(1), 1);
        b.change(1);
        due("20: at rest", b.shortest(0), 0);
        due("20: none to do", b.shortest(1), NONE);
        b = laid(MEEK_TWO);
        due("20: no rest", b.shortest(0), NONE);
        due("20: no rest", b.shortest(1), NONE);
        due("20: bad ahead of none", b.shortest(2), BAD);
        due("20: at rest as laid", laid(FOOLS).shortest(0), 0);
        due("20: at rest as laid", laid(FOOLS).shortest(1), NONE);
        // Two pairs that want to change, each by itself: either may begin, the lowest is told.
        b = laid("p1,1,0;p0,1,0;p3,1,0;p2,1,0;");
        due("20: two pairs", b.shortest(0), 2);
        due("20: two pairs", b.shortest(1), 0);
        // In a RING of two both CHANGES are the same one.
        b = laid("p1,1,0;p0,1,0;r1;");
        due("20: ring of two", b.shortest(0), 1);
        due("20: ring of two", b.shortest(1), 0);
    }

    private static void p21Comes() {
        BothWould b = laid(TWO_WAYS);
        int[][] ways = {{0, 1, 1, 0}, {0, 2, 2, 0}, {1, 0, 1, 0}, {1, 2, 1, 1}, {2, 1, 1, 1}, {2, 0, NONE, NONE},
            {0, 0, 0, NONE}, {2, 2, 0, NONE}};
        for (int[] w : ways) {
            due("21: comes(" + w[0] + ", " + w[1] + ", 0)", b.comes(w[0], w[1], 0), w[2]);
            due("21: comes(" + w[0] + ", " + w[1] + ", 1)", b.comes(w[0], w[1], 1), w[3]);
        }
        due("21", b.comes(3, 0, 0), BAD);
        due("21", b.comes(0, 3, 0), BAD);
        due("21", b.comes(-1, 0, 0), BAD);
        due("21", b.comes(0, -1, 0), BAD);
        due("21", b.comes(0, 0, 2), BAD);
        due("21: bad ahead of none", b.comes(2, 0, -1), BAD);
        b.change(1);
        due("21: from now", b.comes(0, 2, 0), NONE);
        // All MEEK in a ring: the way round the end is shorter.
        b = laid(MEEK_THREE + "p0,0,4;r1;");
        due("21: round the end", b.comes(0, 3, 0), 1);
        due("21: round the end", b.comes(0, 3, 1), 3);
        due("21: either way, the lowest", b.comes(0, 2, 0), 2);
        due("21: either way, the lowest", b.comes(0, 2, 1), 0);
    }

    private static void p22Bars() {
        // 1, a FOOL, stands in 0's way; 2 would change with 0.
        BothWould b = laid("p2,5,0;p1,0,3;p1,5,0;");
        due("22: the fool", b.bars(0, 2), 1);
        due("22: the fool", b.bars(0, 1), 1);
        due("22: he is there", b.bars(0, 0), NONE);
        due("22: he himself would not", b.bars(2, 0), NONE);
        due("22", b.bars(3, 0), BAD);
        due("22", b.bars(0, 3), BAD);
        due("22", b.bars(-1, 0), BAD);
        due("22", b.bars(0, MIN), BAD);
        due("22: nobody has become meek", b.person(1, 2), 3);
        due("22: nobody has become meek", b.comes(0, 2, 0), NONE);
        b = laid("p2,5,0;p1,0,3;p1,0,3;");
        due("22: two fools, none alone", b.bars(0, 2), NONE);
        due("22: the nearer one alone", b.bars(0, 1), 1);
        b = laid(TWO_WAYS);
        due("22: he can come", b.bars(0, 2), NONE);
        // In a ring of three either of two fools could let him by: the lowest.
        b = laid("p2,5,0;p1,0,3;p1,0,3;r1;");
        due("22: ring, change 2 with person 2", b.bars(0, 2), 2);
        b = laid("p1,0,3;p1,0,3;p0,5,1;p1,0,3;r1;");
        due("22: to place 0 by 1 and 0, or by 3 and 0", b.bars(2, 0), NONE);
        due("22: person 0", laid("p0,0,3;p0,5,0;").bars(1, 0), 0);
        due("22: himself does not count", laid("p0,0,3;p0,0,4;").bars(0, 1), NONE);
    }

    private static void p23Best() {
        BothWould b = laid(TWO_WAYS);
        due("23: all where they like it", b.best(-1), 10300);
        due("23", b.best(0), 1);
        due("23", b.best(1), 2);
        due("23", b.best(2), 0);
        due("23", b.best(3), BAD);
        due("23", b.best(-2), BAD);
        due("23", b.best(MAX), BAD);
        b.change(1);
        due("23: wherever one is", b.best(0), 1);
        b = laid(FOOLS.replace(",3;", ",0;"));
        due("23: the first of all", b.best(-1), 10600);
        due("23: the first of all", b.best(5), 5);
        // 0 and 2 hate 1 beside them: 100 each, less 10 for one of them; 0 2 1 is the first such.
        b = laid("p0,0,0;p0,0,0;p0,0,0;l0,1,40;l2,1,40;");
        due("23: 300 - 10", b.best(-1), 10290);
        due("23: 0 2 1", b.best(1), 2);
        due("23: 0 2 1", b.best(2), 1);
        b = laid("p0,0,0;p0,0,0;l0,1,0;l1,0,0;");
        due("23: 200 - 100", b.best(-1), 10100);
    }

    private static void p24Price() {
        BothWould b = laid("p2,10,0;p0,4,2;p1,3,1;l0,1,60;l2,0,40;");
        // CHANGE 0: 0 from 90 to 100; 1 from 96 to 100, 6 short of 10. CHANGE 1: 1 from 96 to 92,
        // 2 from 97 to 100 - 10.
        due("24: 0 agrees", b.price(0, 0), 0);
        due("24: greedy", b.price(0, 1), 6);
        due("24: greedy", b.price(1, 0), 14);
        due("24: willing", b.price(1, 1), 7);
        due("24", b.price(2, 0), BAD);
        due("24", b.price(-1, 0), BAD);
        due("24", b.price(0, 2), BAD);
        due("24", b.price(0, -1), BAD);
        due("24", b.price(MIN, MAX), BAD);
        String[] first = {"p1,1,0;", "p1,0,0;", "p0,3,0;", "p0,0,1;", "p0,3,1;", "p1,10,2;", "p1,9,2;", "p0,3,2;", "p0,20,4;", "p1,20,3;"};
        int[] want = {0, 1, 4, 0, 3, 0, 1, 13, 0, NONE};
        for (int k = 0; k < first.length; k++) {
            due("24: of " + first[k], laid(first[k] + "p0,0,3;").price(0, 0), want[k]);
            due("24: of a fool", laid(first[k] + "p0,20,3;").price(0, 1), NONE);
        }
        // The last CHANGE of a ring: the other PLACE is 0.
        b = laid("p0,3,0;p0,0,4;p1,0,3;r1;");
        due("24: ring, at the last place", b.price(2, 0), NONE);
        due("24: ring, at place 0", b.price(2, 1), 4);
    }

    private static void p25Deal() {
        String[] texts = {"p1,6,0;p1,5,0;", "p1,7,0;p1,5,0;", "p0,5,0;p0,7,0;", "p0,5,0;p0,6,0;", "p1,1,0;p0,1,0;",
            "p0,0,1;p0,0,1;", "p1,5,0;p1,5,4;", "p0,5,4;p0,0,1;", "p1,9,2;p0,0,1;", "p1,20,0;p1,0,3;", "p0,0,3;p0,20,0;",
            "p1,20,2;p0,19,2;", "p1,10,2;p0,8,2;", "p1,10,2;p1,9,1;", "p1,10,2;p1,10,1;", "p0,1,0;p1,1,0;", "p0,0,3;p0,0,3;"};
        int[] want = {0, 1, 1, 0, 1,
            0, 1, 0, 0, 0, 0,
            1, 1, 1, 0, 0, 0};
        for (int k = 0; k < texts.length; k++) {
            due("25: deal of " + texts[k], laid(texts[k]).deal(0), want[k]);
            due("25: in a ring, " + texts[k], laid(texts[k] + "r1;").deal(1), want[k]);
        }
        BothWould b = laid(texts[1]);
        due("25", b.deal(1), BAD);
        due("25", b.deal(-1), BAD);
        due("25", b.deal(MAX), BAD);
        row("25: nothing is done", b, 0, 1);
    }

    private static void p26Lie() {
        // Truth: 0 2 1, then 2 0 1, where 1 is worth 100; by 0 or 1 he stays beside 2 at 106.
        BothWould b = laid("p1,3,0;p2,1,0;p0,3,1;l1,2,57;");
        due("26: true way", b.goingOn(-1), 2);
        due("26", b.lie(1, 0), 0);
        due("26", b.lie(1, 1), 6);
        due("26: as it was", b.person(1, 0), 2);
        due("26: as it was", b.goingOn(-1), 2);
        row("26: nothing is done", b, 0, 1, 2);
        due("26", b.lie(3, 0), BAD);
        due("26", b.lie(-1, 0), BAD);
        due("26", b.lie(0, 2), BAD);
        due("26", b.lie(0, -1), BAD);
        b.change(1);
        due("26: from now, too late", b.lie(1, 1), 0);
        // By the truth the MEEK two change for ever; by 1 he stands between them; by 2 he goes past.
        b = laid("p0,5,0;p0,0,4;p0,0,4;");
        due("26: by the truth no rest, though by 1", b.lie(0, 0), NONE);
        due("26: by the truth no rest, though by 1", b.lie(0, 1), NONE);
        due("26: bad ahead of none", b.lie(0, 2), BAD);
        due("26: as it was", b.person(0, 0), 0);
        // The other way round: by the truth he stands between them, and by 0 it never ends.
        b = laid("p1,5,0;p0,0,4;p0,0,4;");
        due("26: no rest by 0, by the truth there is", b.lie(0, 0), 1);
        due("26: no rest by 0, by the truth there is", b.lie(0, 1), 0);
        b = laid(MEEK_TWO);
        due("26: no rest by any", b.lie(0, 0), NONE);
        due("26: no rest by any", b.lie(0, 1), NONE);
        due("26: bad ahead of none", b.lie(2, 0), BAD);
        b = laid("p1,5,3;p0,5,0;");
        due("26: all alike, the lowest", b.lie(0, 0), 0);
        due("26: all alike", b.lie(0, 1), 0);
    }

    private static void p27to28Seen() {
        BothWould b = laid(MEEK_THREE);
        due("27", b.seen(0, 0, 1, true), 1);
        due("27: alike", b.seen(0, 1, 1, true), BAD);
        due("27", b.seen(3, 0, 1, true), BAD);
        due("27", b.seen(-1, 0, 1, true), BAD);
        due("27", b.seen(0, 3, 1, true), BAD);
        due("27", b.seen(0, 0, 3, true), BAD);
        due("27", b.seen(0, -1, 1, false), BAD);
        due("27", b.seen(0, 1, MIN, false), BAD);
        due("27: count", b.count(4), 1);
        for (int k = 2; k <= 8; k++) {
            due("27", b.seen(2, 2, 0, k % 2 == 0), k);
        }
        due("27: full", b.seen(1, 0, 1, true), FULL);
        due("27: bad ahead of full", b.seen(1, 1, 1, true), BAD);
        due("28", b.forget(), 8);
        due("28", b.forget(), 0);
        due("28: nothing", b.count(4), 0);
        due("28: all fit", b.fits(2, 0), 3);
        due("27: room again", b.seen(1, 2, 0, false), 1);
    }

    private static void seenAs(String text, int x, int y, boolean agreed, int many, int lowest) {
        BothWould b = laid(text);
        b.seen(0, x, y, agreed);
        b.seen(1, x, y, agreed);
        due("29: how many, " + text, b.fits(0, 0), many);
        due("29: the lowest, " + text, b.fits(0, 1), lowest);
    }

    private static void p29Fits() {
        String more = "p0,5,4;p0,0,0;p0,0,0;";
        seenAs("p0,5,0;" + more, 0, 1, true, 3, 1);
        seenAs("p0,5,0;" + more, 0, 1, false, 1, 0);
        seenAs("p0,5,0;" + more, 3, 1, true, 2, 0);
        seenAs("p0,5,0;" + more, 0, 2, true, 2, 2);
        seenAs("p0,5,1;" + more, 0, 2, true, 3, 1);
        seenAs("p0,5,2;" + more, 0, 2, true, 2, 2);
        seenAs("p0,4,2;" + more, 0, 2, true, 0, NONE);
        seenAs("p0,4,2;" + more, 0, 3, true, 1, 3);
        seenAs("p0,0,0;" + more, 0, 3, false, 4, 0);
        seenAs("p0,0,1;" + more, 0, 3, false, 0, NONE);
        seenAs("p0,5,3;" + more, 0, 1, true, 0, NONE);
        seenAs("p0,5,3;" + more, 0, 1, false, 4, 0);
        seenAs("p0,5,4;" + more, 0, 1, true, 4, 0);
        seenAs("p0,5,4;" + more, 0, 1, false, 0, NONE);
        // In a ring PLACE 3 is nearer to 0 than to 1.
        seenAs("p0,5,0;" + more + "r1;", 0, 1, true, 2, 1);
        // Likings do not count.
        seenAs("p0,5,0;" + more + "l0,1,99;l0,2,99;l0,3,0;", 0, 1, true, 3, 1);
        BothWould b = laid("p0,5,0;" + more);
        due("29: nothing seen", b.fits(0, 0), 4);
        due("29: nothing seen", b.fits(0, 1), 0);
        b.seen(0, 0, 1, true);
        b.seen(0, 3, 2, true);
        due("29: both", b.fits(0, 0), 2);
        due("29: both", b.fits(0, 1), 1);
        due("29: of another nothing", b.fits(2, 0), 4);
        b.seen(0, 2, 1, false);
        due("29: all three", b.fits(0, 0), 1);
        due("29: all three", b.fits(0, 1), 2);
        due("29", b.fits(4, 0), BAD);
        due("29", b.fits(-1, 0), BAD);
        due("29", b.fits(0, 2), BAD);
        due("29", b.fits(0, -1), BAD);
    }

    private static void p30Mean() {
        // Of two CHANGES the first suits, once; it is not yet done behind n evenings by 1 in 2^n.
        BothWould b = laid("p1,6,0;p0,6,0;p2,0,3;");
        int[][] want = {{94, 1}, {97, 1}, {197, 2}, {397, 4}, {797, 8}, {1597, 16}, {3197, 32}};
        for (int n = 0; n <= 6; n++) {
            due("30: mean(0, " + n + ", 0)", b.mean(0, n, 0), 100000000 + want[n][0]);
            due("30: mean(0, " + n + ", 1)", b.mean(0, n, 1), want[n][1]);
        }
        due("30: the fool", b.mean(2, 6, 0), 100000100);
        due("30: the fool", b.mean(2, 6, 1), 1);
        due("30", b.mean(0, 7, 0), BAD);
        due("30", b.mean(0, -1, 0), BAD);
        due("30", b.mean(3, 0, 0), BAD);
        due("30", b.mean(-1, 0, 0), BAD);
        due("30", b.mean(0, 0, 2), BAD);
        due("30", b.mean(0, 0, -1), BAD);
        due("30", b.mean(MIN, MAX, MIN), BAD);
        row("30: nothing is done", b, 0, 1, 2);
        b.change(0);
        due("30: from now", b.mean(0, 3, 0), 100000100);
        // 0 stays at 0, 40 by place; beside him is 1 (-50) or, once 1 and 2 have changed, 2 (-47).
        b = laid("p3,20,3;p2,1,0;p1,1,0;p3,0,3;l0,1,0;l0,2,3;");
        due("30: -10", b.mean(0, 0, 0), 99999990);
        due("30: -27/3", b.mean(0, 1, 0), 99999991);
        due("30: -27/3", b.mean(0, 1, 1), 1);
        due("30: -75/9", b.mean(0, 2, 0), 99999975);
        due("30: -75/9", b.mean(0, 2, 1), 3);
        // A mean of 0 is 0/1.
        b = laid("p5,20,0;p0,0,3;p0,0,3;p0,0,3;p0,0,3;p0,0,3;");
        due("30: 0", b.mean(0, 6, 0), 100000000);
        due("30: 0", b.mean(0, 6, 1), 1);
        b = laid("p0,5,4;p0,0,4;");
        due("30: there", b.mean(0, 1, 0), 100000095);
        due("30: there and back", b.mean(0, 2, 0), 100000100);
        // A ring of two has two CHANGES that do the same.
        b = laid("p1,5,0;p0,5,0;r1;");
        due("30: ring of two", b.mean(0, 1, 0), 100000100);
        b = laid("p0,1,4;p0,0,4;p0,0,4;r1;");
        due("30: ring: stays by 1 in 3, else one step away", b.mean(0, 1, 0), 100000298);
        due("30: ring", b.mean(0, 1, 1), 3);
    }

    private static void p31to32Keep() {
        BothWould b = laid(MEEK_THREE);
        due("32: none", b.back(), NO);
        due("31", b.keep(), 1);
        b.change(0);
        due("31", b.keep(), 2);
        b.change(1);
        due("31: full", b.keep(), FULL);
        row("31", b, 1, 2, 0);
        due("31: keeping can be undone behind", b.count(5), 2);
        due("32", b.back(), 1);
        row("32: the last", b, 1, 0, 2);
        due("32: nothing to undo", b.count(5), 0);
        due("32: nothing to undo", b.undo(), NO);
        b.change(1);
        due("31: room again", b.keep(), 2);
        b.change(0);
        due("32", b.back(), 1);
        row("32", b, 1, 2, 0);
        due("32", b.back(), 0);
        row("32: the first", b, 0, 1, 2);
        b.change(0);
        due("32: none", b.back(), NO);
        due("32: no is not done", b.count(5), 1);
        row("32", b, 1, 0, 2);
        b.tell(0);
        b.seen(0, 0, 1, true);
        b.keep();
        b.back();
        due("32: the told row stays", b.count(3), 1);
        due("32: what was seen stays", b.count(4), 1);
    }

    private static void p33Count() {
        BothWould b = laid(TWO_WAYS);
        b.tell(0);
        b.tell(1);
        b.tell(1);
        b.seen(0, 0, 1, true);
        b.seen(0, 0, 1, true);
        b.change(0);
        b.keep();
        b.keep();
        b.write(3, 0L);
        int[] want = {3, 2, 1, 3, 2, 1, 2, 24};
        for (int what = 0; what < 8; what++) {
            due("33: count(" + what + ")", b.count(what), want[what]);
        }
        b.undo();
        due("33: suit now", b.count(2), 2);
        due("33", b.count(8), BAD);
        due("33", b.count(-1), BAD);
        due("33", b.count(MIN), BAD);
        due("33", b.count(MAX), BAD);
        due("33: changes of a ring", laid(MEEK_THREE + "r1;").count(1), 3);
        due("33: changes of a ring of two", laid(MEEK_TWO + "r1;").count(1), 2);
        due("33: all suit", laid(MEEK_THREE + "r1;").count(2), 3);
    }
}
