/** The boundary cases of the HANDSET: TICKS, LAWS, WHERE, ROUNDS, and promises 13 to 17. */
final class HandsetEdges extends Edge {
    /** A ring of six. */
    private static final String ROUND_SIX = LINE + "j5,0,1,1;";

    private HandsetEdges() {
    }

    static void run() {
        ticking();
        registering();
        updates();
        where();
        whereWithoutStay();
        rounds();
        cuts();
        paging();
        tickCall();
        pageCall();
        handsetCall();
        whereCall();
        roundCall();
    }

    private static void ticking() {
        edge(TERMS, "The HANDSET is at a CELL; a TICK: it stays, or moves to a CELL JOINED to its own;", () -> {
            for (int from = 0; from < 6; from++) {
                for (int to = 0; to < 6; to++) {
                    RingPages x = laid(LINE);
                    for (int c = 1; c <= from; c++) quiet(x, c);
                    boolean can = Math.abs(from - to) <= 1;
                    due("tick(" + to + ") from " + from, x.tick(to), can ? 0 : NO);
                    due("its CELL", x.handset(0), can ? to : from);
                    RingPages y = laid(ALL + "l2,9;", from);
                    due("tick(" + to + ") where all are JOINED", y.tick(to), 0);
                    due("its CELL", y.handset(0), to);
                }
            }
        });
        edge(TERMS, "by chance it stays by STAY, moves by the WEIGHT from its CELL to that one, of all these of its CELL together (its SUM).", () -> {
            due("the least SUM", laid("n2;j0,1,1,4;s0,0;").cell(0, 2), 1);
            due("the most SUM", laid("n6;j0,1,4,1;j0,2,4,1;j0,3,4,1;j0,4,4,1;j5,0,1,4;s0,9;").cell(0, 2), 29);
            RingPages x = laid("n3;j0,1,2,1;j2,0,1,4;s0,3;");
            due("SUM", x.cell(0, 2), 9);
            due("SUM", x.cell(1, 2), 2);
            x.set(0, 0, 0);
            due("SUM by STAY 0", x.cell(0, 2), 6);
            // what is not JOINED, or of no STAY, is never drawn
            for (int z = 0; z < 200; z++) must("a CELL JOINED to 0", x.walk(z, 1, 0) == 1 || x.walk(z, 1, 0) == 2);
        });
    }

    private static void registering() {
        edge(TERMS, "The HANDSET is REGISTERED at a CELL; the network knows that one and how many TICKS ago it was.", () -> {
            RingPages x = laid(PAIR);
            dueHandset(x, 0, 0, 0, 0);
            for (int t = 1; t <= 200; t++) {
                quiet(x, t % 2);
                due("TICKS since", x.handset(3), t);
            }
            dueHandset(x, 0, 0, 200, 200, 0, 0, 0);
        });
        edge(TERMS, "Then it is REGISTERED there (0 moves, 0 TICKS since).", () -> {
            for (String law : new String[] {"l0,0;a1,1;", "l1,1;", "l2,2;", "l3,1;"}) {
                RingPages x = laid(PAIR + law, 0);
                due("tick(1) by " + law, x.tick(1), 1);
                dueHandset(x, 1, 1, 0, 0, 1, 0, 5);
                due("tick(1) by " + law, x.tick(1), 0);
                dueHandset(x, 1, 1, 0, 1, 1, 0, 5);
                due("tick(0) by " + law, x.tick(0), 1);
                dueHandset(x, 0, 0, 0, 0, 2, 0, 10);
            }
        });
        edge(TERMS, "It is so, too, where it is then, when STAY, AREA, LAW are told anew, BEST AREAS given (that is no UPDATE).", () -> {
            Call[] each = {y -> y.set(0, 0, 0), y -> y.set(2, 1, 5), y -> y.set(1, 1, 5), y -> y.law(1, 9), y -> y.law(3, 1), y -> y.law(2, 1), y -> y.give()};
            for (Call call : each) {
                RingPages x = laid(LINE + "p2,1,99,10;", 0, 1, 2);
                dueHandset(x, 2, 0, 2, 3, 0, 0, 0);
                must("it is told anew", call.on(x) >= 0);
                dueHandset(x, 2, 2, 0, 0, 0, 0, 0);
                due("where()", x.where(), 4);
                due("undo()", x.undo(), 3);
                dueHandset(x, 2, 0, 2, 3, 0, 0, 0);
            }
            // what is so is not told anew
            RingPages x = laid(LINE, 0, 1, 2);
            due("set(2, 0, 1)", x.set(2, 0, 1), NO);
            due("set(2, 1, 0)", x.set(2, 1, 0), NO);
            due("law(0, 0)", x.law(0, 0), NO);
            dueHandset(x, 2, 0, 2, 3, 0, 0, 0);
        });
    }

    private static void updates() {
        edge(TERMS, "An UPDATE is due behind a TICK by LAW:", () -> {
            // by one LAW what another looks at makes none due
            String apart = LINE + "a1,1;a2,2;a3,3;a4,4;a5,5;";
            quiet(laid(apart + "l1,9;"), 1, 2, 3, 4, 5, 4, 3, 2);
            quiet(laid(apart + "l2,9;"), 1, 2, 3, 4, 5, 4, 3, 2);
            quiet(laid(apart + "l3,6;"), 1, 2, 3, 4, 5, 4, 3, 2, 1, 0, 1, 2);
            quiet(laid(LINE), 1, 2, 3, 4, 5, 4, 3, 2, 1, 0, 1, 2);
            // an AREA told anew makes none, the next TICK does
            RingPages x = laid(PAIR, 1);
            x.set(0, 1, 5);
            due("UPDATES", x.handset(4), 0);
            due("tick(0)", x.tick(0), 1);
            due("UPDATES", x.handset(4), 1);
        });
        edge(TERMS, "CROSSING: its CELL is of another AREA than that at which it is REGISTERED;", () -> {
            RingPages x = laid(LINE + "a1,5;a3,1;a4,1;");
            quiet(x, 0, 0);
            due("from 0 to 5", x.tick(1), 1);
            due("it stays", x.tick(1), 0);
            due("from 5 to 0", x.tick(2), 1);
            due("from 0 to 1", x.tick(3), 1);
            due("within 1", x.tick(4), 0);
            due("from 1 to 0", x.tick(5), 1);
            dueHandset(x, 5, 5, 0, 0, 4);
            RingPages one = laid(PAIR + "a0,5;a1,5;");
            for (int i = 1; i <= 100; i++) quiet(one, i % 2);
        });
        edge(TERMS, "MOVES: it has moved V times since;", () -> {
            for (int v = 1; v <= 9; v++) {
                RingPages x = laid(PAIR + "l1," + v + ";");
                for (int turn = 0; turn < 2; turn++) {
                    for (int i = 1; i < v; i++) {
                        quiet(x, 1 - x.handset(0));
                        quiet(x, x.handset(0), x.handset(0));
                        due("moves since", x.handset(2), i);
                    }
                    quiet(x, x.handset(0));
                    due("the last of " + v + " moves", x.tick(1 - x.handset(0)), 1);
                    due("moves since", x.handset(2), 0);
                }
                due("UPDATES", x.handset(4), 2);
            }
        });
        edge(TERMS, "TIME: V TICKS have gone by since;", () -> {
            for (int v = 1; v <= 9; v++) {
                RingPages x = laid(PAIR + "l2," + v + ";");
                for (int turn = 0; turn < 3; turn++) {
                    for (int i = 1; i < v; i++) {
                        quiet(x, turn == 1 ? 1 - x.handset(0) : x.handset(0));
                        due("TICKS since", x.handset(3), i);
                    }
                    due("the last of " + v + " TICKS", x.tick(turn == 2 ? 1 - x.handset(0) : x.handset(0)), 1);
                    due("TICKS since", x.handset(3), 0);
                }
                due("UPDATES", x.handset(4), 3);
            }
        });
        edge(TERMS, "FAR: its CELL is V or more WIDE from that.", () -> {
            for (int v = 1; v <= 9; v++) {
                RingPages x = laid(LINE + "l3," + v + ";", 0);
                for (int c = 1; c <= 5; c++) {
                    due("tick(" + c + ") by FAR of " + v, x.tick(c), c % v == 0 ? 1 : 0);
                    due("where REGISTERED", x.handset(1), c / v * v);
                }
                // both ways round, the shorter one counts: 3 is the most
                RingPages y = laid(ROUND_SIX + "l3," + v + ";");
                if (v > 3) quiet(y, 1, 2, 3, 4, 5, 0, 5, 4, 3);
                else for (int c = 1; c <= 12; c++) due("tick(" + c % 6 + ") round, by FAR of " + v, y.tick(c % 6), c % v == 0 ? 1 : 0);
            }
            // so many moves, and yet not so far
            quiet(laid(LINE + "l3,2;"), 1, 0, 1, 0, 1, 1, 1, 0, 1);
        });
    }

    private static int bitsTo(int last) {
        return (1 << (Math.min(last, 5) + 1)) - 1;
    }

    private static void where() {
        edge(TERMS, "WHERE is the set of CELLS in which it can be, as the network knows, with no UPDATE since, t TICKS having gone by since: those to which from "
            + "the CELL where it is REGISTERED some row of t TICKS leads behind none of which an UPDATE is due", () -> {
            for (int t = 0; t <= 8; t++) {
                int[] stays = new int[t];
                due("by CROSSING, one AREA", laid(LINE, stays).where(), bitsTo(t));
                due("by CROSSING, to the next AREA", laid(LINE + "a3,1;", stays).where(), bitsTo(Math.min(t, 2)));
                due("by CROSSING, alone in its AREA", laid(LINE + "a0,5;", stays).where(), 1);
                // 2 is of its AREA, but 1 on the way to it is not
                due("by CROSSING, an AREA in pieces", laid(LINE + "a1,1;", stays).where(), 1);
                due("by TIME", laid(LINE + "l2,9;", stays).where(), bitsTo(t));
                for (int v = 1; v <= 9; v++) {
                    due("by MOVES of " + v, laid(LINE + "l1," + v + ";", stays).where(), bitsTo(Math.min(t, v - 1)));
                    due("by FAR of " + v, laid(LINE + "l3," + v + ";", stays).where(), bitsTo(Math.min(t, v - 1)));
                    int near = t == 0 || v == 1 ? 1 : t == 1 || v == 2 ? 35 : t == 2 || v == 3 ? 55 : 63;
                    due("round, by FAR of " + v, laid(ROUND_SIX + "l3," + v + ";", stays).where(), near);
                }
            }
            // it is from where it is REGISTERED, not from where it is
            RingPages x = laid(LINE + "l3,4;", 1, 2, 3);
            due("where()", x.where(), 15);
            due("tick(4)", x.tick(4), 1);
            due("where() behind an UPDATE", x.where(), 16);
            ticks(x, 5);
            due("where()", x.where(), 56);
            // CELL 0 is left out like others
            due("by CROSSING, CELL 0 apart", laid(LINE + "a0,1;", 1, 1, 1, 1).where(), 30);
            due("by FAR of 2 from 2", laid(LINE + "l3,2;", 1, 2, 2, 2, 2).where(), 14);
            // what was so ahead of an UPDATE is forgotten, however often it was asked for
            RingPages moves = laid(LINE + "l1,3;");
            for (int turn = 0; turn < 3; turn++) {
                int at = moves.handset(0), to = at == 5 ? 4 : at + 1;
                due("where() by MOVES, no TICK since", moves.where(), 1 << at);
                quiet(moves, to, at);
                due("its own CELL is in it", moves.where() >> at & 1, 1);
                due("tick(" + to + ")", moves.tick(to), 1);
                due("where() by MOVES, behind an UPDATE", moves.where(), 1 << to);
            }
            RingPages old = laid(LINE);
            for (int t = 0; t < 300; t++) quiet(old, 0);
            due("behind 300 TICKS", old.where(), 63);
        });
    }

    private static void whereWithoutStay() {
        edge(TERMS, "(a CELL of STAY 0 can not be stayed in).", () -> {
            RingPages pair = laid(PAIR + "s0,0;s1,0;");
            for (int t = 0; t < 100; t++) {
                due("where() by turns", pair.where(), t % 2 == 0 ? 1 : 2);
                due("it can not stay", pair.tick(t % 2), NO);
                quiet(pair, 1 - t % 2);
            }
            RingPages line = laid(LINE + "s0,0;");
            int[] way = {1, 1, 1, 1, 1}, want = {1, 2, 7, 15, 31, 63};
            for (int t = 0; t < want.length; t++) {
                due("where(), one CELL of STAY 0", line.where(), want[t]);
                if (t < way.length) quiet(line, way[t]);
            }
            // each of several CELLS that lie apart can be stayed in
            String star = "n4;j0,1,1,1;j0,2,1,1;j0,3,1,1;s0,0;";
            due("where() at the ends of a star", laid(star, 1).where(), 14);
            due("where(), stayed there or back", laid(star, 1, 1).where(), 15);
            due("where(), one end left at once", laid(star + "s2,0;", 1, 1).where(), 11);
            due("where(), all ends left at once", laid(star + "s1,0;s2,0;s3,0;", 1, 0).where(), 1);
            // by MOVES of 2 the one move is spent at once
            RingPages spent = laid(PAIR + "s0,0;l1,2;", 1);
            for (int t = 1; t < 5; t++) {
                due("where() by MOVES of 2", spent.where(), 2);
                quiet(spent, 1);
            }
            due("by TIME it can be back", laid(PAIR + "s0,0;l2,9;", 1, 1).where(), 3);
            // STAY told anew tells WHERE anew
            RingPages anew = laid(PAIR + "s0,0;");
            due("set(0, 0, 1)", anew.set(0, 0, 1), 0);
            quiet(anew, 1);
            due("where()", anew.where(), 3);
            due("set(0, 0, 0)", anew.set(0, 0, 0), 1);
            due("where()", anew.where(), 2);
        });
    }

    private static void rounds() {
        edge(TERMS, "PAGED it is by ROUNDS: CELLS of WHERE in a row, those of the greatest CHANCE (section 3) first, of several the lowest;", () -> {
            // WEIGHTS alike both ways: CHANCE is as SUM, 2 and STAY
            String three = RING + "l2,9;p3,1,1,1;";
            dueRounds(laid(three + "s0,1;s1,3;s2,2;", 0), 2, 4, 1);
            dueRounds(laid(three + "s0,3;s1,2;s2,1;", 0), 1, 2, 4);
            dueRounds(laid(three + "s0,0;s1,5;s2,9;", 1, 1), 4, 2, 1);
            dueRounds(laid(three, 0), 1, 2, 4);
            dueRounds(laid(three + "s1,9;s2,9;", 0), 2, 4, 1);
            dueRounds(laid(three + "s0,9;s2,9;", 0), 1, 4, 2);
            // those of WHERE alone
            dueRounds(laid(three + "s0,1;s1,3;s2,2;"), 1);
            dueRounds(laid(three + "s0,1;s1,3;s2,2;l0,0;a1,1;", 0), 4, 1);
            // the row is of CHANCE, not of SUM: 1 has the more SUM, but much leads from it to 0
            RingPages x = laid("n2;j0,1,1,4;s0,3;s1,1;l2,9;", 0);
            due("SUM of 0", x.cell(0, 2), 4);
            due("SUM of 1", x.cell(1, 2), 5);
            dueChance(x, 0, 16, 21);
            dueRounds(x, 1, 2);
        });
    }

    private static void cuts() {
        edge(TERMS, "the row is cut into ROUNDS, R at most, none empty,", () -> {
            for (int r = 1; r <= 4; r++) {
                RingPages x = laid(LINE + "l2,9;p" + r + ",1,1,1;");
                for (int t = 0; t < 7; t++) {
                    int many = Math.min(r, Math.min(t + 1, 6)), all = 0;
                    due("round(-1)", x.round(-1), many);
                    for (int k = 0; k < many; k++) {
                        must("none is empty", x.round(k) > 0);
                        must("each CELL is in one alone", (all & x.round(k)) == 0);
                        all |= x.round(k);
                    }
                    due("all of WHERE", all, x.where());
                    due("one behind the last", x.round(many), NONE);
                    quiet(x, 0);
                }
            }
        });
        edge(TERMS, "so that the mean of how many CELLS are PAGED is least (each CELL by its CHANCE: all CELLS of ROUNDS up to its own),", () -> {
            // SUMS 14, 5, 5, 5, 5, 5: behind 1 is 14 + 25 * 6 = 164, behind 2 is 19 * 2 + 20 * 6 = 158, behind 3 is 24 * 3 + 15 * 6 = 162
            String one = ALL + "s0,9;s1,0;s2,0;s3,0;s4,0;s5,0;l2,9;";
            dueRounds(laid(one + "p1,1,1,1;", 1), 63);
            dueRounds(laid(one + "p2,1,1,1;", 1), 3, 60);
            // SUMS 14, 14, 14, 14, 14, 5: behind 3 is 42 * 3 + 33 * 6 = 324, behind 4 is 56 * 4 + 19 * 6 = 338
            String five = ALL + "s0,9;s1,9;s2,9;s3,9;s4,9;s5,0;l2,9;";
            dueRounds(laid(five + "p2,1,1,1;", 1), 7, 56);
            // SUMS 11, 2, 2: of three the two unlike ends
            dueRounds(laid(RING + "s0,9;s1,0;s2,0;l2,9;p2,1,1,1;", 1), 1, 6);
            // SUMS 11, 11, 2: 11 + 13 * 3 = 50, 22 * 2 + 2 * 3 = 50: alike, the shorter first; 11, 10, 2: 11 + 36 = 47, 42 + 6 = 48
            dueRounds(laid(RING + "s0,9;s1,9;s2,0;l2,9;p2,1,1,1;", 1), 1, 6);
            dueRounds(laid(RING + "s0,9;s1,8;s2,0;l2,9;p2,1,1,1;", 1), 1, 6);
        });
        edge(TERMS, "of several cuts the one of fewest ROUNDS, then the first (the shorter first ROUND, then second, ..).", () -> {
            // no CHANCE is 0, so that one ROUND more is always less: two of the same number of ROUNDS alone can be alike
            dueRounds(laid(ALL + "l2,9;p2,1,1,1;", 1), 7, 56);
            dueRounds(laid(ALL + "l2,9;p3,1,1,1;", 1), 3, 12, 48);
            dueRounds(laid(ALL + "l2,9;p4,1,1,1;", 1), 1, 2, 12, 48);
            // 14, 5, 5, 5, 5, 5: 1 2 3 and 1 3 2 are 14 + 30 + 90 and 14 + 60 + 60
            String one = ALL + "s0,9;s1,0;s2,0;s3,0;s4,0;s5,0;l2,9;";
            dueRounds(laid(one + "p3,1,1,1;", 1), 1, 6, 56);
            // 1 1 2 2, 1 2 1 2 and 1 2 2 1 are 124 each
            dueRounds(laid(one + "p4,1,1,1;", 1), 1, 2, 12, 48);
            // two alike, three alike in two
            dueRounds(laid(PAIR + "l2,9;p4,1,1,1;", 1), 1, 2);
            dueRounds(laid(RING + "l2,9;p2,1,1,1;", 1), 1, 6);
        });
    }

    private static void paging() {
        edge(TERMS, "ROUND by ROUND all CELLS of it are PAGED, till the HANDSET is in one; then it is REGISTERED there, too.", () -> {
            int[] many = {1, 2, 4, 4, 6, 6};
            for (int c = 0; c < 6; c++) {
                RingPages x = laid(ALL + "l2,9;p4,1,1,1;", c);
                due("page() at " + c, x.page(), many[c]);
                dueHandset(x, c, c, 0, 0, 0, many[c], many[c]);
                due("where()", x.where(), 1 << c);
                due("page() again", x.page(), 1);
            }
            // 0 moves, 0 TICKS since, so that the LAW begins anew
            RingPages x = laid(PAIR + "l2,2;", 1);
            x.page();
            quiet(x, 1);
            due("tick(1)", x.tick(1), 1);
            RingPages y = laid(PAIR + "l1,2;", 1);
            y.page();
            quiet(y, 0);
            due("tick(1)", y.tick(1), 1);
            RingPages z = laid(LINE + "l3,2;", 1);
            z.page();
            quiet(z, 2);
            due("tick(3)", z.tick(3), 1);
        });
        edge(TERMS, "COST so far: C for each CELL PAGED, U for each UPDATE.", () -> {
            for (int[] cost : new int[][] {{0, 0}, {99, 99}, {99, 0}, {0, 99}, {1, 5}}) {
                RingPages x = laid(PAIR + "l2,2;p1," + cost[0] + "," + cost[1] + ",99;", 0, 1, 1);
                due("page()", x.page(), 2);
                due("page()", x.page(), 1);
                dueHandset(x, 1, 1, 0, 0, 1, 3, 3 * cost[0] + cost[1]);
                ticks(x, 1, 0);
                dueHandset(x, 0, 0, 0, 0, 2, 3, 3 * cost[0] + 2 * cost[1]);
            }
            // as much as one can come to
            RingPages dear = laid(ALL + "l1,1;p1,99,99,99;");
            for (int i = 1; i <= 100; i++) due("tick", dear.tick(i % 6), 1);
            for (int i = 0; i < 100; i++) dear.page();
            due("COST", dear.handset(6), 99 * 200);
        });
    }

    private static void tickCall() {
        edge(13, "A TICK: it goes to CELL c (its own: it stays): 1 if an UPDATE is due, 0.", () -> {
            RingPages x = laid(PAIR + "l1,1;");
            due("tick(0) stays", x.tick(0), 0);
            dueHandset(x, 0, 0, 0, 1, 0);
            due("tick(1)", x.tick(1), 1);
            dueHandset(x, 1, 1, 0, 0, 1);
            RingPages time = laid(PAIR + "l2,1;");
            due("an UPDATE is due where it stays, too", time.tick(0), 1);
            RingPages last = laid(LINE, 1, 2, 3, 4);
            due("to the last CELL", last.tick(5), 0);
            due("it stays in it", last.tick(5), 0);
            dueHandset(last, 5, 0, 5, 6, 0, 0, 0);
        });
        edge(13, "BAD;", () -> {
            for (int c : outside(0, 5)) {
                refused(Edge::busy, "tick(" + c + ")", y -> y.tick(c), BAD);
                refused(RingPages::new, "tick(" + c + ")", y -> y.tick(c), BAD);
            }
            for (int c = 2; c < 6; c++) due("tick(" + c + ") of two", laid(PAIR).tick(c), BAD);
        });
        edge(13, "NO: it can not go there.", () -> {
            for (int c = 1; c <= 3; c++) {
                int to = c;
                refused(Edge::busy, "tick(" + c + ") from 5", y -> y.tick(to), NO);
            }
            refused(() -> laid(PAIR + "s0,0;"), "tick(0), STAY 0", y -> y.tick(0), NO);
            refused(() -> laid(PAIR + "s1,0;", 0, 0, 1), "tick(1), STAY 0", y -> y.tick(1), NO);
            RingPages x = laid(PAIR + "s0,0;");
            due("tick(0)", x.tick(0), NO);
            due("set(0, 0, 1)", x.set(0, 0, 1), 0);
            due("tick(0) by STAY 1", x.tick(0), 0);
            due("set(0, 0, 0)", x.set(0, 0, 0), 1);
            due("tick(0)", x.tick(0), NO);
        });
    }

    private static void pageCall() {
        edge(14, "PAGED: how many CELLS are.", () -> {
            due("of a new object", new RingPages().page(), 1);
            for (int r = 1; r <= 4; r++) due("no TICK since, R " + r, laid(ALL + "l2,9;p" + r + ",1,1,1;").page(), 1);
            due("all in one ROUND", laid(ALL + "l2,9;p1,1,1,1;", 0).page(), 6);
            due("till the last ROUND", laid(ALL + "l2,9;p4,1,1,1;", 5).page(), 6);
            due("the first ROUND alone", laid(ALL + "l2,9;p4,1,1,1;", 0).page(), 1);
            RingPages x = laid(PAIR + "p1,1,1,1;", 1);
            due("page()", x.page(), 2);
            due("page()", x.page(), 1);
            due("CELLS PAGED", x.handset(5), 3);
            due("count(8)", x.count(8), 3);
            due("undo()", x.undo(), 2);
            due("undo()", x.undo(), 1);
            dueHandset(x, 1, 0, 1, 1, 0, 0, 0);
        });
    }

    private static void handsetCall() {
        edge(15, "Of the HANDSET: its CELL (what = 0), where it is REGISTERED (1), moves since (2), TICKS since (3), UPDATES so far (4), CELLS PAGED so far (5), "
            + "COST so far (6).", () -> {
            dueHandset(new RingPages(), 0, 0, 0, 0, 0, 0, 0);
            RingPages x = laid(LINE + "a3,1;p1,7,11,1;", 1, 2, 3, 2, 1, 1, 0);
            due("page()", x.page(), 3);
            ticks(x, 0, 1, 2, 1);
            dueHandset(x, 1, 0, 3, 4, 2, 3, 43);
        });
        edge(15, "BAD.", () -> {
            for (int what : outside(0, 6)) {
                refused(Edge::busy, "handset(" + what + ")", y -> y.handset(what), BAD);
                due("handset(" + what + ") of a new object", new RingPages().handset(what), BAD);
            }
        });
    }

    private static void whereCall() {
        edge(16, "WHERE, as bits.", () -> {
            due("CELL 0 alone", new RingPages().where(), 1);
            RingPages x = laid(LINE + "l1,1;", 1, 2, 3, 4, 5);
            due("the last CELL alone", x.where(), 32);
            due("all six", laid(ALL, 1).where(), 63);
            due("all two", laid(PAIR, 1).where(), 3);
            refused(Edge::busy, "where()", y -> y.where(), busy().where());
            refused(Edge::busyByFar, "where()", y -> y.where(), busyByFar().where());
        });
    }

    private static void roundCall() {
        edge(17, "ROUNDS: how many (k = -1), CELLS of the k-th, as bits.", () -> {
            dueRounds(new RingPages(), 1);
            RingPages x = laid(ALL + "l2,9;p4,1,1,1;", 1);
            due("round(-1)", x.round(-1), 4);
            due("round(0)", x.round(0), 1);
            due("round(3)", x.round(3), 48);
            refused(Edge::busy, "round(-1)", y -> y.round(-1), 2);
            refused(Edge::busy, "round(0)", y -> y.round(0), busy().round(0));
        });
        edge(17, "BAD (k below -1);", () -> {
            for (int k : outside(-1, Integer.MAX_VALUE)) if (k < -1) refused(Edge::busy, "round(" + k + ")", y -> y.round(k), BAD);
            due("round(-2)", new RingPages().round(-2), BAD);
            due("round(-1) is none of these", new RingPages().round(-1), 1);
        });
        edge(17, "NONE: not so many.", () -> {
            due("round(1) of one", new RingPages().round(1), NONE);
            due("round(2) of two", laid(PAIR, 1).round(2), NONE);
            due("round(4) of four", laid(ALL + "l2,9;p4,1,1,1;", 1).round(4), NONE);
            due("round(3) of three CELLS, R 4", laid(RING + "p4,1,1,1;", 1).round(3), NONE);
            for (int k : outside(-1, 1)) if (k > 1) refused(Edge::busy, "round(" + k + ")", y -> y.round(k), NONE);
        });
    }
}
