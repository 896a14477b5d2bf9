import java.math.BigInteger;

/** The boundary cases of CELLS, of the long run and of WALKS, and promises 10 to 12 and 18 to 23. */
final class LongRunEdges extends Edge {
    /** All JOINS with WEIGHTS unlike, STAYS at both ends: the greatest numbers that fractions come to. */
    private static final String UNLIKE = "n6;j0,1,4,1;j0,2,4,3;j0,3,1,4;j0,4,3,4;j0,5,2,4;j1,2,4,1;j1,3,4,3;j1,4,1,4;j1,5,4,2;"
        + "j2,3,4,4;j2,4,3,4;j2,5,4,1;j3,4,4,3;j3,5,2,4;j4,5,4,3;s0,9;s1,9;s2,8;s3,9;s4,7;s5,9;";
    /** Of most kinds: two CELLS and six, few JOINS and all, STAYS none and most. */
    private static final String[] NETS = {PAIR, PAIR + "s0,0;s1,0;", "n2;j0,1,1,4;s0,9;s1,0;", RING, RING + "s0,0;s1,0;s2,0;", LINE, LINE + "s0,0;s1,0;s2,0;s3,0;s4,0;s5,0;",
        "n3;j0,1,4,1;j1,2,4,1;j2,0,4,1;s0,0;s1,0;s2,0;", "n5;j4,0,1,2;j4,1,3,4;j4,2,1,1;j4,3,4,1;s4,0;", ALL, UNLIKE};

    private LongRunEdges() {
    }

    static void run() {
        wideness();
        chances();
        crossing();
        rates();
        expenses();
        bests();
        walks();
        draws();
        cellCall();
        weightCall();
        wideCall();
        chanceCall();
        meanCall();
        bestCall();
        leastCall();
        walkCall();
        countCall();
    }

    private static Fraction chanceOf(RingPages x, int c) {
        return Fraction.of(x.chance(c, 0), x.chance(c, 1));
    }

    private static Fraction meanOf(RingPages x, int what) {
        return Fraction.of(x.mean(what, 0), x.mean(what, 1));
    }

    private static Fraction times(long k, Fraction f) {
        return Fraction.of(k, 1).times(f);
    }

    private static void alike(String what, Fraction got, Fraction want) {
        must(what + ": " + got.above + " by " + got.below + " is " + want.above + " by " + want.below, got.compareTo(want) == 0);
    }

    private static void lowest(String what, long above, long below) {
        must(what + ": " + above + " by " + below + " is in lowest terms", above >= 0 && below >= 1
            && BigInteger.valueOf(above).gcd(BigInteger.valueOf(below)).equals(BigInteger.ONE));
    }

    private static void wideness() {
        edge(TERMS, "WIDE between two CELLS is the fewest JOINS that lead from one to the other.", () -> {
            RingPages line = laid(LINE.replace(",1,1;", ",4,1;"));
            RingPages ring = laid(LINE + "j5,0,4,4;"), all = laid(ALL), star = laid("n6;j3,0,1,1;j3,1,1,1;j3,2,1,1;j3,4,1,1;j3,5,1,1;");
            for (int a = 0; a < 6; a++) {
                for (int b = 0; b < 6; b++) {
                    int apart = Math.abs(a - b);
                    due("on a line " + a + " " + b, line.wide(a, b), apart);
                    due("on a ring " + a + " " + b, ring.wide(a, b), Math.min(apart, 6 - apart));
                    due("all JOINED " + a + " " + b, all.wide(a, b), a == b ? 0 : 1);
                    due("on a star " + a + " " + b, star.wide(a, b), a == b ? 0 : a == 3 || b == 3 ? 1 : 2);
                }
            }
        });
    }

    private static void chances() {
        edge(TERMS, "CHANCE of a CELL in the long run: the one row of numbers, together 1, such that CHANCE of each CELL is the sum over CELLS of their CHANCE "
            + "times WEIGHT from them to it (its own: STAY) by their SUM.", () -> {
            for (String net : NETS) {
                RingPages x = laid(net);
                int n = x.count(0);
                Fraction together = Fraction.ZERO;
                Fraction[] p = new Fraction[n];
                for (int c = 0; c < n; c++) {
                    p[c] = chanceOf(x, c);
                    must("there is some", p[c].compareTo(Fraction.ZERO) > 0);
                    together = together.plus(p[c]);
                }
                alike("together", together, Fraction.ONE);
                for (int c = 0; c < n; c++) {
                    Fraction come = Fraction.ZERO;
                    for (int d = 0; d < n; d++) {
                        int lead = d == c ? x.cell(c, 0) : x.weight(d, c);
                        come = come.plus(p[d].times(Fraction.of(lead, x.cell(d, 2))));
                    }
                    alike("what comes to " + c, come, p[c]);
                }
            }
            RingPages none = laid(PAIR + "s0,0;s1,0;");
            dueChance(none, 0, 1, 2);
            dueChance(none, 1, 1, 2);
            // 1 by 10 from 0 to 1, 1 by 1 back: 10 to 1
            dueChance(laid("n2;j0,1,1,1;s0,9;s1,0;"), 0, 10, 11);
            // it follows the STAY told anew, not the AREA
            RingPages x = laid(PAIR);
            x.set(1, 1, 5);
            dueChance(x, 0, 1, 2);
            x.set(0, 0, 9);
            dueChance(x, 0, 5, 6);
            x.undo();
            dueChance(x, 0, 1, 2);
        });
    }

    private static Fraction leads(RingPages x, boolean toOtherAreas) {
        Fraction f = Fraction.ZERO;
        for (int i = 0; i < x.count(0); i++) {
            for (int j = 0; j < x.count(0); j++) {
                if (i == j || toOtherAreas && x.cell(i, 1) == x.cell(j, 1)) continue;
                f = f.plus(chanceOf(x, i).times(Fraction.of(x.weight(i, j), x.cell(i, 2))));
            }
        }
        return f;
    }

    private static void crossing() {
        edge(TERMS, "CROSSES: the sum over all CELLS i and CELLS j JOINED to it, of another AREA, of CHANCE of i times WEIGHT from i to j by SUM of i.", () -> {
            for (String net : NETS) {
                RingPages one = laid(net);
                dueMean(one, 0, 0, 1);
                one.set(1, 1, 5);
                alike("CROSSES, one CELL apart", meanOf(one, 0), leads(one, true));
                RingPages each = laid(net);
                for (int c = 0; c < 6; c++) each.set(c, 1, c);
                alike("CROSSES, all apart", meanOf(each, 0), leads(each, false));
            }
            // of another AREA, but not JOINED
            RingPages x = laid("n3;j0,1,1,1;j1,2,1,1;s0,0;s1,0;s2,0;a2,1;");
            dueMean(x, 0, 1, 2);
            dueMean(laid(PAIR + "s0,0;s1,0;a0,1;"), 0, 1, 1);
        });
        edge(TERMS, "MOVES ON: likewise over all CELLS JOINED to it.", () -> {
            for (String net : NETS) {
                RingPages x = laid(net);
                alike("MOVES ON", meanOf(x, 1), leads(x, false));
                for (int c = 0; c < 6; c++) x.set(c, 0, 0);
                dueMean(x, 1, 1, 1);
            }
            dueMean(laid(PAIR + "s0,9;s1,9;"), 1, 1, 10);
            // AREAS are nothing to it
            dueMean(laid(PAIR + "a1,5;"), 1, 1, 2);
        });
    }

    private static void rates() {
        edge(TERMS, "RATE of UPDATES: CROSSES by CROSSING, MOVES ON by V by MOVES, 1 by V by TIME; none by FAR.", () -> {
            RingPages x = laid(PAIR + "s0,3;a1,1;");
            dueMean(x, 2, 1, 3);
            RingPages one = laid(PAIR + "s0,3;");
            dueMean(one, 2, 0, 1);
            for (int v = 1; v <= 9; v++) {
                x.law(1, v);
                dueMean(x, 2, 1, 3 * v);
                x.law(2, v);
                dueMean(x, 2, 1, v);
                x.law(3, v);
                dueMean(x, 2, NONE, NONE);
            }
            x.law(0, 0);
            dueMean(x, 2, 1, 3);
            // in lowest terms: 6 by 7 of MOVES ON by 3 and by 9
            RingPages six = laid("n2;j0,1,3,3;s0,0;s1,1;l1,3;");
            dueMean(six, 1, 6, 7);
            dueMean(six, 2, 2, 7);
            six.law(1, 9);
            dueMean(six, 2, 2, 21);
        });
    }

    private static Fraction expense(RingPages x) {
        Fraction crowd = Fraction.ZERO;
        for (int c = 0; c < x.count(0); c++) crowd = crowd.plus(times(x.cell(c, 4), chanceOf(x, c)));
        return times(x.count(6), leads(x, true)).plus(Fraction.of((long) x.count(5) * x.count(7), 100).times(crowd));
    }

    private static void expenses() {
        edge(TERMS, "EXPENSE in the mean of a TICK, whatever LAW: U times CROSSES, and (C times Q by 100) times the sum over CELLS of CHANCE times how many CELLS "
            + "are of its AREA, together.", () -> {
            for (String prices : new String[] {"p1,0,0,0;", "p4,99,99,99;", "p2,99,0,0;", "p2,0,0,99;", "p2,0,99,0;", "p2,99,0,99;", "p2,0,99,99;", "p2,1,5,10;"}) {
                for (String net : new String[] {PAIR + "a1,5;", LINE + "a2,1;a3,1;a5,2;", RING + "s0,9;a1,1;a2,2;"}) {
                    RingPages x = laid(net + prices);
                    alike("EXPENSE of " + net + prices, meanOf(x, 3), expense(x));
                }
            }
            dueMean(laid(PAIR + "a1,5;p1,0,0,0;"), 3, 0, 1);
            dueMean(laid(PAIR + "a1,5;p1,99,0,0;"), 3, 0, 1);
            dueMean(laid(PAIR + "a1,5;p1,0,0,99;"), 3, 0, 1);
            dueMean(laid(PAIR + "p1,0,99,0;"), 3, 0, 1);
            dueMean(laid(PAIR + "a1,5;p1,1,0,1;"), 3, 1, 100);
            dueMean(laid(PAIR + "a1,5;p1,99,99,99;"), 3, 4950 + 9801, 100);
            RingPages x = laid(PAIR + "a1,5;p4,7,3,50;");
            for (int[] law : new int[][] {{1, 1}, {1, 9}, {2, 1}, {2, 9}, {3, 1}, {3, 9}, {0, 0}}) {
                x.law(law[0], law[1]);
                dueMean(x, 3, 5, 1);
            }
        });
    }

    /** All ways to give AREAS in the document's order, each one's EXPENSE as the class itself tells it of AREAS told anew. */
    private static final class Search {
        private final String net;
        private Fraction least;
        private int[] first;
        private int ways;

        Search(String net) {
            this.net = net;
            go(new int[laid(net).count(0)], 1);
        }

        private void go(int[] area, int c) {
            if (c == area.length) {
                RingPages x = laid(net);
                for (int d = 0; d < area.length; d++) x.set(d, 1, area[d]);
                Fraction e = meanOf(x, 3);
                ways++;
                if (least == null || e.compareTo(least) < 0) {
                    least = e;
                    first = area.clone();
                }
                return;
            }
            int above = 0;
            for (int d = 0; d < c; d++) above = Math.max(above, area[d] + 1);
            for (int k = 0; k <= above; k++) {
                area[c] = k;
                go(area, c + 1);
            }
        }
    }

    private static void bests() {
        edge(TERMS, "BEST AREAS: of all ways to give AREAS to CELLS (CELL 0 is of AREA 0, each further one of an AREA that is one at most above all ahead of it) "
            + "that of the least EXPENSE,", () -> {
            int[] ways = {0, 0, 2, 5, 15, 52, 203};
            for (String net : new String[] {PAIR + "p1,10,3,30;", RING + "s0,9;p1,9,9,20;", "n4;j0,2,4,4;j1,3,4,4;j0,1,1,1;p2,20,20,20;",
                "n5;j4,0,1,2;j4,1,3,4;j4,2,1,1;j4,3,4,1;s4,0;p2,50,30,25;", LINE + "p2,99,99,20;", LINE + "s2,9;s3,9;p2,99,50,15;",
                LINE.replace("j2,3,1,1", "j2,3,4,4") + "j5,0,3,3;a0,5;a3,2;p2,50,99,50;", ALL + "s5,9;p2,50,90,30;"}) {
                Search search = new Search(net);
                RingPages x = laid(net);
                due("ways of " + x.count(0), search.ways, ways[x.count(0)]);
                dueBest(x, search.first);
                alike("least of " + net, Fraction.of(x.least(0), x.least(1)), search.least);
            }
            // the ends: all together, each alone
            dueBest(laid(LINE + "p2,1,99,1;"), 0, 0, 0, 0, 0, 0);
            dueBest(laid(LINE + "p2,99,0,99;"), 0, 1, 2, 3, 4, 5);
            // CELLS that are not neighbours by number: AREAS are told by the first CELL of each
            dueBest(laid("n4;j0,3,4,4;j1,2,4,4;j0,1,1,1;p2,20,20,20;"), 0, 1, 1, 0);
        });
        edge(TERMS, "of several the first (by CELL 1, the lower AREA ahead, then by 2, ..).", () -> {
            dueBest(laid(LINE + "a0,5;a1,4;p1,0,0,0;"), 0, 0, 0, 0, 0, 0);
            dueBest(laid(LINE + "p1,99,0,0;"), 0, 0, 0, 0, 0, 0);
            // together 2, apart 1 and U by 2: alike by U 2, and next to that
            dueBest(laid(PAIR + "p2,10,2,10;"), 0, 0);
            dueBest(laid(PAIR + "p2,10,1,10;"), 0, 1);
            dueBest(laid(PAIR + "p2,10,3,10;"), 0, 0);
            // three alike each to each: 0 0 1, 0 1 0, 0 1 1 are alike, 0 0 0 and 0 1 2 dearer or alike
            for (int u = 0; u <= 9; u++) {
                String net = RING + "s0,0;s1,0;s2,0;p2,10," + u + ",20;";
                dueBest(laid(net), new Search(net).first);
            }
            dueBest(laid("n3;j0,1,1,1;j1,2,1,1;s0,2;s2,2;p2,10,5,10;"), 0, 0, 1);
        });
    }

    private static int draw(int z, int k) {
        BigInteger x = BigInteger.valueOf(7919).multiply(BigInteger.valueOf(z)).add(BigInteger.valueOf(6151L * k + 1));
        return x.multiply(x).mod(BigInteger.valueOf(65521)).intValueExact();
    }

    private static void walks() {
        edge(TERMS, "A WALK by z (0 to 9999) of n (1 to 60) TICKS from now on:", () -> {
            RingPages x = laid(PAIR);
            for (int z : new int[] {0, 1, 9998, 9999}) for (int n : new int[] {1, 2, 59, 60}) must("walk(" + z + ", " + n + ", 0)", x.walk(z, n, 0) >= 0);
            for (int z : outside(0, 9999)) due("walk(" + z + ", 1, 0)", x.walk(z, 1, 0), BAD);
            due("walk(10000, 1, 0)", x.walk(10000, 1, 0), BAD);
            for (int n : outside(1, 60)) due("walk(0, " + n + ", 0)", x.walk(0, n, 0), BAD);
            // from where it is, with what has gone by since it was REGISTERED
            for (int gone = 0; gone < 9; gone++) {
                RingPages y = laid(PAIR + "l2,9;", new int[gone]);
                for (int n : new int[] {1, 8, 9, 10, 60}) due("UPDATES behind " + gone + " and " + n, y.walk(3, n, 1), (gone + n) / 9);
                RingPages moved = laid(PAIR + "s0,0;s1,0;l1,9;");
                for (int i = 0; i < gone; i++) quiet(moved, 1 - moved.handset(0));
                for (int n : new int[] {1, 8, 9, 60}) {
                    due("UPDATES by MOVES behind " + gone + " and " + n, moved.walk(3, n, 1), (gone + n) / 9);
                    due("its CELL then", moved.walk(3, n, 0), (gone + n) % 2);
                }
            }
        });
        edge(TERMS, "Nothing changes by it.", () -> {
            for (int what = 0; what < 3; what++) {
                int w = what;
                refused(Edge::busy, "walk(9999, 60, " + w + ")", y -> y.walk(9999, 60, w), busy().walk(9999, 60, w));
                refused(Edge::busyByFar, "walk(0, 60, " + w + ")", y -> y.walk(0, 60, w), busyByFar().walk(0, 60, w));
            }
        });
    }

    private static void draws() {
        edge(TERMS, "in the k-th (0 first) it goes by DRAW modulo SUM of its CELL: if that is below STAY, it stays; else it moves to that CELL, of those JOINED, "
            + "the lowest first, by which STAY and WEIGHTS to these so far together are more than it;", () -> {
            // at 2: STAY 3, WEIGHTS 2 to 0, 1 to 3, 4 to 5, told out of order: SUM 10
            RingPages x = laid("n6;j2,5,4,1;j3,2,1,1;j0,2,1,2;j5,1,1,1;j5,4,1,1;s2,3;", 2);
            int[] to = {2, 2, 2, 0, 0, 3, 5, 5, 5, 5};
            boolean[] seen = new boolean[10];
            for (int z = 0; z < 100; z++) {
                int drawn = draw(z, 0) % 10;
                seen[drawn] = true;
                due("walk(" + z + ", 1, 0) by " + drawn, x.walk(z, 1, 0), to[drawn]);
                due("walk(" + z + ", 1, 2) by " + drawn, x.walk(z, 1, 2), to[drawn] == 2 ? 0 : 1);
            }
            // squares have no last figure 2, 3, 7, 8 for long, but modulo 65521 they do
            for (int drawn = 0; drawn < 10; drawn++) must("a DRAW of " + drawn, seen[drawn]);
            // of STAY 0 it never stays
            RingPages y = laid(RING + "s0,0;s1,0;s2,0;");
            for (int z = 0; z < 100; z++) {
                due("walk(" + z + ", 1, 0)", y.walk(z, 1, 0), draw(z, 0) % 2 == 0 ? 1 : 2);
                due("walk(" + z + ", 60, 2)", y.walk(z, 60, 2), 60);
            }
        });
        edge(TERMS, "DRAW being (x times x) modulo 65521, x 7919 z, 6151 k and 1 together.", () -> {
            due("the first DRAW of all", draw(0, 0), 1);
            // at SUM 2 it moves by an odd DRAW; x times x is far above an int
            for (int z : new int[] {0, 1, 2, 5, 6, 7, 99, 1000, 5000, 9998, 9999}) {
                RingPages x = laid(PAIR);
                int moves = 0;
                for (int n = 1; n <= 60; n++) {
                    moves += draw(z, n - 1) % 2;
                    due("walk(" + z + ", " + n + ", 2)", x.walk(z, n, 2), moves);
                    due("walk(" + z + ", " + n + ", 0)", x.walk(z, n, 0), moves % 2);
                }
            }
            // SUM 29: more of the DRAW than its last bit; all six JOINED, WEIGHTS 4, STAYS 9
            RingPages y = laid(ALL.replace(",1,1;", ",4,4;") + "s0,9;s1,9;s2,9;s3,9;s4,9;s5,9;");
            due("SUM", y.cell(3, 2), 29);
            for (int z : new int[] {0, 4321, 9999}) {
                int at = 0;
                for (int n = 1; n <= 60; n++) {
                    int drawn = draw(z, n - 1) % 29;
                    if (drawn >= 9) {
                        int nth = (drawn - 9) / 4;
                        at = nth < at ? nth : nth + 1;
                    }
                    due("walk(" + z + ", " + n + ", 0) of six", y.walk(z, n, 0), at);
                }
            }
        });
    }

    private static void dueCell(RingPages x, int c, int... want) {
        for (int what = 0; what < want.length; what++) due("cell(" + c + ", " + what + ")", x.cell(c, what), want[what]);
    }

    private static void cellCall() {
        edge(10, "Of a CELL: STAY (what = 0), AREA (1), SUM (2), CELLS JOINED to it, as bits (3), how many CELLS are of its AREA (4).", () -> {
            RingPages x = laid("n6;j0,5,1,4;j1,5,1,4;j2,5,1,4;j3,5,1,4;j4,5,1,4;s0,0;s5,9;a5,5;");
            dueCell(x, 0, 0, 0, 1, 32, 5);
            dueCell(x, 1, 1, 0, 2, 32, 5);
            dueCell(x, 5, 9, 5, 29, 31, 1);
            due("all of one AREA", laid(LINE).cell(3, 4), 6);
            due("all others", laid(ALL).cell(0, 3), 62);
            due("one of two", laid(PAIR).cell(1, 3), 1);
            // AREA 0 is an AREA like others, and CELLS that there are not are of none
            due("of two", laid(PAIR).cell(0, 4), 2);
            due("of two, apart", laid(PAIR + "a1,1;").cell(0, 4), 1);
        });
        edge(10, "BAD.", () -> {
            for (int c : outside(0, 5)) for (int what = 0; what < 5; what++) due("cell(" + c + ", " + what + ")", new RingPages().cell(c, what), BAD);
            for (int what : outside(0, 4)) {
                refused(Edge::busy, "cell(0, " + what + ")", y -> y.cell(0, what), BAD);
                due("cell(6, " + what + ")", new RingPages().cell(6, what), BAD);
            }
            refused(Edge::busy, "cell(6, 0)", y -> y.cell(6, 0), BAD);
        });
    }

    private static void weightCall() {
        edge(11, "WEIGHT from a CELL to another one (0: not JOINED).", () -> {
            RingPages x = laid("n4;j3,0,1,4;j1,3,4,2;j2,1,3,1;");
            int[][] want = {{BAD, 0, 0, 4}, {0, BAD, 1, 4}, {0, 3, BAD, 0}, {1, 2, 0, BAD}};
            for (int a = 0; a < 4; a++) for (int b = 0; b < 4; b++) due("weight(" + a + ", " + b + ")", x.weight(a, b), want[a][b]);
        });
        edge(11, "BAD (alike, too).", () -> {
            for (int c = 0; c < 6; c++) due("weight(" + c + ", " + c + ")", new RingPages().weight(c, c), BAD);
            for (int c : outside(0, 5)) {
                RingPages x = new RingPages();
                for (int d = 0; d < 6; d++) {
                    due("weight(" + c + ", " + d + ")", x.weight(c, d), BAD);
                    due("weight(" + d + ", " + c + ")", x.weight(d, c), BAD);
                }
                due("weight(" + c + ", " + c + ")", x.weight(c, c), BAD);
            }
            refused(Edge::busy, "weight(0, 0)", y -> y.weight(0, 0), BAD);
        });
    }

    private static void wideCall() {
        edge(12, "WIDE.", () -> {
            RingPages x = laid(LINE);
            due("the most", x.wide(0, 5), 5);
            due("and back", x.wide(5, 0), 5);
            for (int c = 0; c < 6; c++) due("wide(" + c + ", " + c + "), alike is not BAD here", x.wide(c, c), 0);
        });
        edge(12, "BAD.", () -> {
            for (int c : outside(0, 5)) {
                RingPages x = new RingPages();
                for (int d = 0; d < 6; d++) {
                    due("wide(" + c + ", " + d + ")", x.wide(c, d), BAD);
                    due("wide(" + d + ", " + c + ")", x.wide(d, c), BAD);
                }
                due("wide(" + c + ", " + c + ")", x.wide(c, c), BAD);
            }
            refused(Edge::busy, "wide(0, 6)", y -> y.wide(0, 6), BAD);
        });
    }

    private static void chanceCall() {
        edge(18, "CHANCE of a CELL, in lowest terms: above (part = 0), below (1).", () -> {
            for (String net : NETS) {
                RingPages x = laid(net);
                for (int c = 0; c < x.count(0); c++) lowest("chance(" + c + ")", x.chance(c, 0), x.chance(c, 1));
            }
            // each by itself: 1 by 6, 1 by 3, 1 by 2
            RingPages x = laid(RING + "s0,0;s1,2;s2,4;");
            dueChance(x, 0, 1, 6);
            dueChance(x, 1, 1, 3);
            dueChance(x, 2, 1, 2);
            dueChance(laid(ALL + "s0,9;"), 0, 7, 22);
        });
        edge(18, "BAD.", () -> {
            for (int c : outside(0, 5)) for (int part = 0; part < 2; part++) due("chance(" + c + ", " + part + ")", new RingPages().chance(c, part), BAD);
            for (int part : outside(0, 1)) {
                refused(Edge::busy, "chance(0, " + part + ")", y -> y.chance(0, part), BAD);
                due("chance(6, " + part + ")", new RingPages().chance(6, part), BAD);
            }
            for (int c = 2; c < 6; c++) due("chance(" + c + ", 0) of two", laid(PAIR).chance(c, 0), BAD);
        });
    }

    private static void meanCall() {
        edge(19, "CROSSES (what = 0), MOVES ON (1), RATE of UPDATES (2), EXPENSE (3), in lowest terms (0 by 1): above (part = 0), below (1).", () -> {
            for (String net : NETS) {
                RingPages x = laid(net);
                for (int what = 0; what < 4; what++) lowest("mean(" + what + ")", x.mean(what, 0), x.mean(what, 1));
                dueMean(x, 0, 0, 1);
                dueMean(x, 2, 0, 1);
                x.law(1, 6);
                lowest("RATE by MOVES", x.mean(2, 0), x.mean(2, 1));
            }
            RingPages x = laid(PAIR + "a1,5;p1,0,0,0;l2,4;");
            dueMean(x, 0, 1, 2);
            dueMean(x, 1, 1, 2);
            dueMean(x, 2, 1, 4);
            dueMean(x, 3, 0, 1);
        });
        edge(19, "BAD;", () -> {
            for (int what : outside(0, 3)) for (int part = 0; part < 2; part++) {
                int p = part;
                refused(Edge::busyByFar, "mean(" + what + ", " + p + ")", y -> y.mean(what, p), BAD);
            }
            for (int what = -1; what < 5; what++) for (int part : outside(0, 1)) due("mean(" + what + ", " + part + ")", new RingPages().mean(what, part), BAD);
            refused(Edge::busy, "mean(0, 2)", y -> y.mean(0, 2), BAD);
        });
        edge(19, "NONE: (2) LAW is FAR.", () -> {
            for (int v = 1; v <= 9; v++) {
                RingPages x = laid(PAIR + "l3," + v + ";");
                dueMean(x, 2, NONE, NONE);
                dueMean(x, 0, 0, 1);
                dueMean(x, 1, 1, 2);
                dueMean(x, 3, 1, 5);
            }
            refused(Edge::busyByFar, "mean(2, 0)", y -> y.mean(2, 0), NONE);
            refused(Edge::busyByFar, "mean(2, 1)", y -> y.mean(2, 1), NONE);
        });
    }

    private static void bestCall() {
        edge(20, "BEST AREAS: the AREA of a CELL.", () -> {
            RingPages x = laid(LINE + "a0,5;a1,5;p2,99,0,99;");
            dueBest(x, 0, 1, 2, 3, 4, 5);
            // they are not given by that
            dueAreas(x, 5, 5, 0, 0, 0, 0);
            due("count(8)", x.count(8), 0);
            // they follow the STAY told anew, and what is LAID anew; AREAS are nothing to them
            RingPages y = laid(PAIR + "p2,10,3,10;");
            dueBest(y, 0, 0);
            y.set(1, 1, 3);
            dueBest(y, 0, 0);
            y.set(0, 0, 9);
            dueBest(y, 0, 1);
            y.undo();
            dueBest(y, 0, 0);
            y.wipe();
            write(y, PAIR + "p2,99,0,99;").lay();
            dueBest(y, 0, 1);
        });
        edge(20, "BAD.", () -> {
            for (int c : outside(0, 5)) refused(Edge::busy, "best(" + c + ")", y -> y.best(c), BAD);
            for (int c = 2; c < 6; c++) due("best(" + c + ") of two", laid(PAIR).best(c), BAD);
        });
    }

    private static void leastCall() {
        edge(21, "EXPENSE by BEST AREAS, in lowest terms (0 by 1): above (part = 0), below (1).", () -> {
            dueLeast(laid(PAIR + "a1,1;p1,0,0,0;"), 0, 1);
            dueLeast(laid(LINE + "a1,1;p1,0,99,99;"), 0, 1);
            dueLeast(laid(LINE + "p1,99,99,0;"), 0, 1);
            dueLeast(laid(PAIR + "a1,1;p1,99,99,99;"), 14751, 100);
            for (String net : NETS) {
                if (net.length() > 150) continue;
                RingPages x = laid(net + "p2,9,7,31;");
                long above = x.least(0), below = x.least(1);
                lowest("least", above, below);
                must("none is less", Fraction.of(above, below).compareTo(meanOf(x, 3)) <= 0);
                x.give();
                dueMean(x, 3, above, below);
                dueLeast(x, above, below);
            }
            RingPages x = laid(UNLIKE);
            lowest("least", x.least(0), x.least(1));
        });
        edge(21, "BAD.", () -> {
            for (int part : outside(0, 1)) refused(Edge::busy, "least(" + part + ")", y -> y.least(part), BAD);
        });
    }

    private static void walkCall() {
        edge(22, "A WALK: its CELL then (what = 0), UPDATES in it (1), moves in it (2).", () -> {
            RingPages x = laid(PAIR + "s0,0;s1,0;l2,1;");
            due("the most UPDATES", x.walk(0, 60, 1), 60);
            due("the most moves", x.walk(9999, 60, 2), 60);
            due("its CELL then", x.walk(9999, 60, 0), 0);
            due("its CELL then", x.walk(9999, 59, 0), 1);
            x.law(2, 9);
            due("no UPDATE", x.walk(0, 8, 1), 0);
            // those so far are none in it
            RingPages y = laid(PAIR + "s0,0;s1,0;a1,1;", 1, 0, 1);
            due("UPDATES in it", y.walk(5, 1, 1), 1);
            due("moves in it", y.walk(5, 1, 2), 1);
            due("UPDATES so far", y.handset(4), 3);
            y.law(3, 2);
            due("no UPDATE by FAR of 2", y.walk(5, 60, 1), 0);
            // it is REGISTERED anew on the way: by FAR of 1 each move is an UPDATE, back to where it was, too
            y.law(3, 1);
            due("UPDATES by FAR of 1", y.walk(5, 60, 1), 60);
        });
        edge(22, "BAD.", () -> {
            for (int z : outside(0, 9999)) refused(Edge::busy, "walk(" + z + ", 1, 0)", y -> y.walk(z, 1, 0), BAD);
            for (int n : outside(1, 60)) refused(Edge::busy, "walk(0, " + n + ", 0)", y -> y.walk(0, n, 0), BAD);
            for (int what : outside(0, 2)) refused(Edge::busy, "walk(0, 1, " + what + ")", y -> y.walk(0, 1, what), BAD);
            due("walk(-1, 1, 0)", new RingPages().walk(-1, 1, 0), BAD);
            due("walk(10000, 60, 2)", new RingPages().walk(10000, 60, 2), BAD);
            due("walk(0, 0, 0)", new RingPages().walk(0, 0, 0), BAD);
            due("walk(9999, 61, 2)", new RingPages().walk(9999, 61, 2), BAD);
        });
    }

    private static void countCall() {
        edge(23, "How many: 0 CELLS, 1 JOINS, 2 KIND of LAW, 3 VALUE, 4 R, 5 C, 6 U, 7 Q, 8 changes that can be UNDONE, 9 letters of THE TEXT.", () -> {
            RingPages x = laid(PAIR + "l3,9;p4,97,98,99;", 1, 0, 1, 0, 1, 0, 1);
            int[] want = {2, 1, 3, 9, 4, 97, 98, 99, 6, 29};
            for (int what = 0; what < want.length; what++) due("count(" + what + ")", x.count(what), want[what]);
            due("the most CELLS", laid(ALL).count(0), 6);
            due("the most JOINS", laid(ALL).count(1), 15);
            due("the fewest JOINS of six", laid(LINE).count(1), 5);
            due("no letters", new RingPages().count(9), 0);
            due("no changes", new RingPages().count(8), 0);
            // what is only in THE TEXT is not counted
            RingPages y = write(new RingPages(), PAIR);
            y.fault();
            due("CELLS", y.count(0), 6);
            due("JOINS", y.count(1), 7);
        });
        edge(23, "BAD.", () -> {
            for (int what : outside(0, 9)) {
                refused(Edge::busy, "count(" + what + ")", y -> y.count(what), BAD);
                due("count(" + what + ") of a new object", new RingPages().count(what), BAD);
            }
        });
    }
}
