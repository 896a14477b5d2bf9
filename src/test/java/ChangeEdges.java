import java.util.ArrayList;
import java.util.List;

/** The boundary cases of changes and refusals: BAD, NO, NONE, FULL, and promises 6 to 9. */
final class ChangeEdges extends Edge {
    private ChangeEdges() {
    }

    static void run() {
        changes();
        undoing();
        refusals();
        set();
        law();
        give();
        undo();
    }

    private static void changes() {
        edge(TERMS, "A change: a TICK, PAGED, STAY, AREA, LAW told anew, BEST AREAS given.", () -> {
            RingPages x = new RingPages();
            Call[] each = {y -> y.tick(1), y -> y.page(), y -> y.set(0, 0, 9), y -> y.set(0, 1, 5), y -> y.law(3, 2), y -> y.give()};
            for (int i = 0; i < each.length; i++) {
                must("it is not refused", each[i].on(x) >= 0);
                due("count(8)", x.count(8), i + 1);
            }
            // and nothing else is one
            answers(x);
            write(x, PAIR).wipe();
            due("count(8)", x.count(8), 6);
            // each of them can be UNDONE by itself
            for (Call call : each) {
                RingPages y = laid(RING + "a1,1;a2,2;", 1, 2), twin = laid(RING + "a1,1;a2,2;", 1, 2);
                call.on(y);
                due("undo()", y.undo(), 2);
                same("a change UNDONE", y, twin);
            }
            // though nothing is another one by them
            RingPages z = laid(RING);
            due("page()", z.page(), 1);
            due("give()", z.give(), 0);
            due("tick(0)", z.tick(0), 0);
            due("count(8)", z.count(8), 3);
        });
    }

    private static void undoing() {
        edge(TERMS, "UNDONE is the latest change (the last 6 can be;", () -> {
            for (int many = 0; many <= 14; many++) {
                RingPages x = new RingPages();
                List<Integer> was = new ArrayList<>();
                for (int i = 0; i < many; i++) was.add(x.set(5, 0, i % 2 == 0 ? 2 + i % 8 : 1));
                int can = Math.min(many, 6);
                due("count(8) behind " + many, x.count(8), can);
                for (int i = 1; i <= can; i++) {
                    due("undo()", x.undo(), can - i);
                    due("STAY", x.cell(5, 0), was.get(many - i));
                }
                due("undo() of one more", x.undo(), NO);
            }
            goesRound();
        });
        edge(TERMS, "behind LAID none can be).", () -> {
            RingPages x = write(busy(), ";");
            x.wipe();
            write(x, PAIR);
            due("count(8) ahead", x.count(8), 6);
            due("lay()", x.lay(), 2);
            due("count(8)", x.count(8), 0);
            due("undo()", x.undo(), NO);
            for (int i = 1; i <= 7; i++) {
                ticks(x, 1 - x.handset(0));
                due("count(8)", x.count(8), Math.min(i, 6));
            }
            for (int i = 5; i >= 0; i--) due("undo()", x.undo(), i);
            due("undo()", x.undo(), NO);
            dueHandset(x, 1, 0, 1, 1, 0, 0, 0);
            // a TEXT that is not LAID takes none away
            RingPages y = busy();
            due("lay()", y.lay(), NO);
            due("undo()", y.undo(), 5);
        });
    }

    /** Changes and UNDONE by turns, many more than are kept, against a list of what was. */
    private static void goesRound() {
        RingPages x = laid(PAIR);
        List<Integer> was = new ArrayList<>();
        int can = 0;
        int[] turns = {3, -1, 5, -4, 2, -2, 7, -6, 1, -1, 6, -6, 9, -3, 2, -5, 4, -4};
        for (int turn : turns) {
            for (int i = 0; i < turn; i++) {
                int now = x.cell(1, 0);
                was.add(now);
                due("set(1, 0)", x.set(1, 0, (now + 1 + i) % 10), now);
                can = Math.min(can + 1, 6);
            }
            for (int i = turn; i < 0; i++) {
                if (can == 0) {
                    due("undo()", x.undo(), NO);
                    continue;
                }
                can--;
                due("undo()", x.undo(), can);
                due("STAY", x.cell(1, 0), was.remove(was.size() - 1));
            }
            due("count(8)", x.count(8), can);
        }
    }

    private static void dueBad(int cells, String name, Call call) {
        String line = "n" + cells + LINE.substring(2, 3 + 9 * (cells - 1));
        due(name + " of " + cells, call.on(laid(line + "l3,1;")), BAD);
    }

    private static void refusals() {
        edge(TERMS, "BAD: a number is none that is told (CELLS such as there are).", () -> {
            for (int n = 2; n <= 6; n++) {
                for (int c : outside(0, n - 1)) {
                    for (int v = 0; v < 2; v++) {
                        int w = v;
                        dueBad(n, "set(" + c + ", " + w + ", 0)", y -> y.set(c, w, 0));
                        dueBad(n, "cell(" + c + ", " + w + ")", y -> y.cell(c, w));
                        dueBad(n, "chance(" + c + ", " + w + ")", y -> y.chance(c, w));
                        dueBad(n, "weight(" + c + ", " + w + ")", y -> y.weight(c, w));
                        dueBad(n, "weight(" + w + ", " + c + ")", y -> y.weight(w, c));
                        dueBad(n, "wide(" + c + ", " + w + ")", y -> y.wide(c, w));
                        dueBad(n, "wide(" + w + ", " + c + ")", y -> y.wide(w, c));
                    }
                    dueBad(n, "tick(" + c + ")", y -> y.tick(c));
                    dueBad(n, "best(" + c + ")", y -> y.best(c));
                }
            }
            due("BAD", RingPages.BAD, -1);
        });
        edge(TERMS, "NO: not as things stand.", () -> {
            RingPages x = new RingPages();
            due("lay()", x.lay(), NO);
            due("undo()", x.undo(), NO);
            due("set(0, 0, 1)", x.set(0, 0, 1), NO);
            due("law(0, 0)", x.law(0, 0), NO);
            due("tick(3)", x.tick(3), NO);
            // and then as things stand otherwise
            due("set(0, 0, 2)", x.set(0, 0, 2), 1);
            due("set(0, 0, 1)", x.set(0, 0, 1), 2);
            due("law(1, 9)", x.law(1, 9), 0);
            due("law(0, 0)", x.law(0, 0), 19);
            ticks(x, 1, 2);
            due("tick(3)", x.tick(3), 1);
            due("undo()", x.undo(), 5);
            due("lay()", write(x, PAIR).lay(), 2);
            due("NO", RingPages.NO, -2);
        });
        edge(TERMS, "NONE: there is none.", () -> {
            RingPages x = new RingPages();
            due("fault()", x.fault(), NONE);
            due("round(1)", x.round(1), NONE);
            x.law(3, 9);
            due("mean(2, 0)", x.mean(2, 0), NONE);
            due("mean(2, 1)", x.mean(2, 1), NONE);
            due("NONE", RingPages.NONE, -4);
        });
        edge(TERMS, "FULL.", () -> {
            RingPages x = write(new RingPages(), "x".repeat(200));
            due("write(120)", x.write(120), FULL);
            due("FULL", RingPages.FULL, -3);
        });
        edge(TERMS, "Of several the first in this order, whatever the order at a call;", () -> {
            RingPages full = write(new RingPages(), "x".repeat(200));
            for (int letter : outside(32, 126)) due("write(" + letter + ") to 200", full.write(letter), BAD);
            RingPages x = laid(LINE + "l3,9;");
            for (int part : outside(0, 1)) due("mean(2, " + part + ") by FAR", x.mean(2, part), BAD);
            // were the other numbers looked at alone, these would be NO
            for (int v : outside(0, 1)) due("set(0, " + v + ", 1)", x.set(0, v, 1), BAD);
            for (int v : outside(0, 5)) due("set(" + v + ", 1, 0)", x.set(v, 1, 0), BAD);
            for (int v : outside(1, 3)) due("law(" + v + ", 9)", x.law(v, 9), BAD);
            for (int v : outside(1, 9)) due("law(3, " + v + ")", x.law(3, v), BAD);
            for (int v : outside(0, 5)) due("tick(" + v + ")", x.tick(v), BAD);
            due("set(6, 2, 10)", x.set(6, 2, 10), BAD);
            due("law(4, 10)", x.law(4, 10), BAD);
        });
        edge(TERMS, "nothing changes then.", () -> {
            Call all = y -> y.write(31) + y.write(127) + y.lay() + y.set(5, 1, 3) + y.set(6, 0, 0) + y.set(0, 0, 10) + y.set(0, 1, 6) + y.set(0, 2, 0)
                + y.law(1, 5) + y.law(0, 1) + y.law(1, 10) + y.law(4, 1) + y.cell(6, 0) + y.cell(0, 5) + y.weight(0, 0) + y.wide(0, 6) + y.tick(6) + y.tick(2)
                + y.handset(7) + y.round(-2) + y.round(4) + y.chance(0, 2) + y.mean(4, 0) + y.best(6) + y.least(2) + y.walk(0, 61, 0) + y.count(10);
            // lay(), one set(), one law(), one tick() are NO, round(4) is NONE, the other 22 are BAD
            refused(Edge::busy, "each refused call", all, 22 * BAD + 4 * NO + NONE);
            refused(RingPages::new, "undo()", y -> y.undo(), NO);
        });
    }

    private static void set() {
        edge(6, "STAY (what = 0; 0 to 9), AREA (1; 0 to 5) of a CELL is told anew: what it was.", () -> {
            for (int c = 0; c < 6; c++) {
                RingPages x = laid(LINE);
                int was = 1;
                for (int v : new int[] {0, 9, 1, 8, 0, 5}) {
                    due("set(" + c + ", 0, " + v + ")", x.set(c, 0, v), was);
                    due("cell(" + c + ", 0)", x.cell(c, 0), v);
                    was = v;
                }
                was = 0;
                for (int v : new int[] {5, 0, 1, 4, 3, 2}) {
                    due("set(" + c + ", 1, " + v + ")", x.set(c, 1, v), was);
                    due("cell(" + c + ", 1)", x.cell(c, 1), v);
                    was = v;
                }
                for (int d = 0; d < 6; d++) {
                    due("STAY of " + d, x.cell(d, 0), d == c ? 5 : 1);
                    due("AREA of " + d, x.cell(d, 1), d == c ? 2 : 0);
                }
            }
        });
        edge(6, "BAD;", () -> {
            for (int c : outside(0, 5)) for (int what = 0; what < 2; what++) {
                int w = what;
                refused(Edge::busy, "set(" + c + ", " + w + ", 2)", y -> y.set(c, w, 2), BAD);
            }
            for (int what : outside(0, 1)) refused(Edge::busy, "set(0, " + what + ", 2)", y -> y.set(0, what, 2), BAD);
            for (int v : outside(0, 9)) refused(Edge::busy, "set(0, 0, " + v + ")", y -> y.set(0, 0, v), BAD);
            for (int v : outside(0, 5)) refused(Edge::busy, "set(0, 1, " + v + ")", y -> y.set(0, 1, v), BAD);
            for (int v = 6; v <= 9; v++) due("an AREA that only a STAY can be", new RingPages().set(0, 1, v), BAD);
        });
        edge(6, "NO: it is so.", () -> {
            for (int c = 0; c < 6; c++) for (int what = 0; what < 2; what++) {
                int d = c, w = what, so = busy().cell(c, what);
                refused(Edge::busy, "set(" + d + ", " + w + ", " + so + ")", y -> y.set(d, w, so), NO);
            }
            RingPages x = laid(PAIR + "s1,9;a1,5;");
            due("set(1, 0, 9)", x.set(1, 0, 9), NO);
            due("set(1, 1, 5)", x.set(1, 1, 5), NO);
            due("set(1, 0, 0)", x.set(1, 0, 0), 9);
            due("set(1, 0, 0)", x.set(1, 0, 0), NO);
            due("undo()", x.undo(), 0);
            due("set(1, 0, 9)", x.set(1, 0, 9), NO);
        });
    }

    private static void law() {
        edge(7, "LAW is told anew, of a KIND and a VALUE: 10 times KIND and VALUE as they were.", () -> {
            RingPages x = laid(PAIR);
            int was = 0;
            for (int kind : new int[] {3, 1, 2, 1}) for (int v : new int[] {9, 1, 5, 2, 8}) {
                due("law(" + kind + ", " + v + ")", x.law(kind, v), was);
                due("count(2)", x.count(2), kind);
                due("count(3)", x.count(3), v);
                was = 10 * kind + v;
            }
            due("law(0, 0)", x.law(0, 0), was);
            due("law(3, 9)", x.law(3, 9), 0);
            due("law(2, 9), the VALUE alike", x.law(2, 9), 39);
            due("law(2, 8), the KIND alike", x.law(2, 8), 29);
            due("the least", laid(PAIR + "l1,1;").law(0, 0), 11);
            due("the most", laid(PAIR + "l3,9;").law(0, 0), 39);
        });
        edge(7, "BAD (by CROSSING a VALUE other than 0, too);", () -> {
            for (int v : outside(0, 0)) refused(Edge::busy, "law(0, " + v + ")", y -> y.law(0, v), BAD);
            for (int v = 1; v <= 9; v++) due("law(0, " + v + ")", new RingPages().law(0, v), BAD);
            for (int kind = 1; kind <= 3; kind++) {
                int k = kind;
                for (int v : outside(1, 9)) refused(Edge::busy, "law(" + k + ", " + v + ")", y -> y.law(k, v), BAD);
                due("law(" + k + ", 0)", new RingPages().law(k, 0), BAD);
            }
            for (int kind : outside(0, 3)) {
                refused(Edge::busy, "law(" + kind + ", 1)", y -> y.law(kind, 1), BAD);
                due("law(" + kind + ", 0)", new RingPages().law(kind, 0), BAD);
            }
        });
        edge(7, "NO: it is so.", () -> {
            refused(Edge::busy, "law(1, 5)", y -> y.law(1, 5), NO);
            refused(Edge::busyByFar, "law(3, 3)", y -> y.law(3, 3), NO);
            refused(RingPages::new, "law(0, 0)", y -> y.law(0, 0), NO);
            RingPages x = laid(PAIR + "l2,9;", 1);
            due("law(2, 9)", x.law(2, 9), NO);
            dueHandset(x, 1, 0, 1, 1);
            due("law(2, 1)", x.law(2, 1), 29);
            due("undo()", x.undo(), 1);
            due("law(2, 9)", x.law(2, 9), NO);
        });
    }

    private static void give() {
        edge(8, "BEST AREAS are given: in how many CELLS it is another one.", () -> {
            String apart = "p2,99,0,99;", together = "p2,0,9,99;";
            RingPages none = laid(LINE + "a1,1;a2,2;a3,3;a4,4;a5,5;" + apart);
            due("in none", none.give(), 0);
            dueAreas(none, 0, 1, 2, 3, 4, 5);
            RingPages one = laid(LINE + "a1,1;a2,2;a3,0;a4,4;a5,5;" + apart);
            due("in one", one.give(), 1);
            dueAreas(one, 0, 1, 2, 3, 4, 5);
            RingPages all = laid(LINE + "a0,5;a1,5;a2,5;a3,5;a4,5;a5,5;" + together);
            due("in all, CELL 0 too", all.give(), 6);
            dueAreas(all, 0, 0, 0, 0, 0, 0);
            due("and then in none", all.give(), 0);
            // AREAS that part the CELLS alike under other numbers are others
            RingPages named = laid(PAIR + "a0,1;a1,0;" + apart);
            due("in both", named.give(), 2);
            dueAreas(named, 0, 1);
            RingPages fewer = laid(PAIR + "a0,3;" + together);
            due("in one of two", fewer.give(), 1);
            due("what is given is BEST", fewer.best(0) + fewer.best(1), 0);
            due("undo()", fewer.undo(), 0);
            dueAreas(fewer, 3, 0);
        });
    }

    private static void undo() {
        edge(9, "UNDONE: how many more can be.", () -> {
            RingPages x = laid(RING, 1);
            due("undo() of the only one", x.undo(), 0);
            dueHandset(x, 0, 0, 0, 0, 0, 0, 0);
            ticks(x, 1, 2, 0, 1, 2, 0, 1, 2);
            for (int i = 5; i >= 0; i--) {
                due("undo()", x.undo(), i);
                due("count(8)", x.count(8), i);
            }
            dueHandset(x, 2, 0, 2, 2, 0, 0, 0);
            ticks(x, 2);
            due("undo()", x.undo(), 0);
        });
        edge(9, "NO.", () -> {
            refused(RingPages::new, "undo() of a new object", y -> y.undo(), NO);
            refused(() -> laid(RING), "undo() behind LAID", y -> y.undo(), NO);
            refused(ChangeEdges::allUndone, "undo() behind the last", y -> y.undo(), NO);
            RingPages x = allUndone();
            for (int i = 0; i < 3; i++) due("undo()", x.undo(), NO);
            ticks(x, x.handset(0));
            due("count(8)", x.count(8), 1);
        });
    }

    private static RingPages allUndone() {
        RingPages x = busy();
        for (int i = 5; i >= 0; i--) due("undo()", x.undo(), i);
        return x;
    }
}
