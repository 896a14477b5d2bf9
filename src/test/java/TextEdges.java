/** The boundary cases of THE TEXT: what it is made of, FAULT, LAID, and promises 1 to 5. */
final class TextEdges extends Edge {
    private static final String FIRST = "n6;j0,1,2,1;j1,2,1,1;j2,3,3,1;j3,4,1,2;j4,5,1,1;j5,0,2,2;j1,4,1,1;s2,4;a3,1;a4,1;a5,1;p2,1,5,10;";
    /** All JOINS, all told of all: 200 letters. */
    private static final String LONGEST = ALL.replace(",1,1;", ",4,3;") + "s0,9;s1,8;s2,7;s3,6;s4,5;s5,0;a1,1;a2,2;a3,3;a4,4;a5,5;l02,09;";

    private TextEdges() {
    }

    static void run() {
        cells();
        letters();
        items();
        joins();
        numbersOfCells();
        laws();
        prices();
        faults();
        laying();
        newObject();
        writing();
        wiping();
        faultCall();
        layCall();
    }

    private static void cells() {
        edge(TERMS, "(2 to 6).", () -> {
            dueFault(0, "n0;", "n1;", "n7;", "n8;", "n9;", "n10;", "n12;", "n16;", "n26;", "n60;", "n99;");
            for (int n = 2; n <= 6; n++) {
                due("lay of a line of " + n, layOf("n" + n + LINE.substring(2, 3 + 9 * (n - 1))), n);
                RingPages x = laid("n" + n + LINE.substring(2, 3 + 9 * (n - 1)));
                due("the last CELL", x.cell(n - 1, 0), 1);
                due("one behind it", x.cell(n, 0), BAD);
            }
        });
        edge(TERMS, "Two unlike CELLS may be JOINED, with a WEIGHT from each to the other (1 to 4 each);", () -> {
            dueFault(3, "n6;j0,0,1,1;", "n6;j5,5,1,1;", "n6;j3,03,1,1;");
            for (int w = 0; w <= 11; w++) {
                boolean so = w >= 1 && w <= 4;
                due("WEIGHT there " + w, faultOf("n6;j2,5," + w + ",1;"), so ? NONE : 3);
                due("WEIGHT back " + w, faultOf("n6;j2,5,1," + w + ";"), so ? NONE : 3);
            }
            RingPages x = laid("n2;j1,0,4,1;");
            due("weight(1, 0)", x.weight(1, 0), 4);
            due("weight(0, 1)", x.weight(0, 1), 1);
        });
        edge(TERMS, "each CELL has a STAY (0 to 9) and an AREA (0 to 5).", () -> {
            for (int v = 0; v <= 20; v++) {
                due("STAY " + v, faultOf("n6;s5," + v + ";"), v <= 9 ? NONE : 3);
                due("AREA " + v, faultOf("n6;a5," + v + ";"), v <= 5 ? NONE : 3);
            }
            due("STAY 0 is laid", laid(PAIR + "s1,0;").cell(1, 0), 0);
            due("STAY 9 is laid", laid(PAIR + "s1,9;").cell(1, 0), 9);
            due("AREA 0 is laid", laid(PAIR + "a1,0;").cell(1, 1), 0);
            due("AREA 5 is laid", laid(PAIR + "a1,5;").cell(1, 1), 5);
        });
        edge(TERMS, "All CELLS hang together by JOINS.", () -> {
            for (String text : new String[] {"n2;", "n3;j0,1,1,1;", "n3;j1,2,1,1;", "n3;j0,2,4,4;", "n4;j0,1,1,1;j2,3,1,1;", "n4;j0,1,1,1;j1,2,1,1;j2,0,1,1;",
                "n6;j0,1,1,1;j1,2,1,1;j3,4,1,1;j4,5,1,1;j5,3,1,1;", "n6;j1,2,1,1;j2,3,1,1;j3,4,1,1;j4,5,1,1;j5,1,1,1;"}) {
                due("fault of " + text, faultOf(text), NONE);
                due("lay of " + text, layOf(text), NO);
            }
            due("by the last JOIN", layOf("n6;j1,2,1,1;j3,4,1,1;j5,0,1,1;j2,3,1,1;j4,5,1,1;"), 6);
            due("round one CELL", layOf("n6;j5,0,1,1;j5,1,1,1;j5,2,1,1;j5,3,1,1;j5,4,1,1;"), 6);
        });
    }

    private static void letters() {
        edge(TERMS, "THE TEXT is letters (200 at most).", () -> {
            due("letters of the longest", LONGEST.length(), 200);
            RingPages x = write(new RingPages(), LONGEST);
            due("count(9)", x.count(9), 200);
            due("one more", x.write(';'), FULL);
            due("fault()", x.fault(), NONE);
            due("lay()", x.lay(), 6);
            due("the last ITEM counts: KIND", x.count(2), 2);
            due("the last ITEM counts: VALUE", x.count(3), 9);
            due("weight(4, 5)", x.weight(4, 5), 4);
            due("weight(5, 4)", x.weight(5, 4), 3);
        });
        edge(TERMS, "A TEXT is ITEMS one behind the other, a ; behind each;", () -> {
            dueFault(NONE, "", "n2;", PAIR);
            dueFault(0, ";", ";n2;", "n2", "n2:", "n2,", "n2 ;", " n2;");
            dueFault(3, "n2;;", "n2;;s0,1;", "n2; s0,1;", "n2;s0,1", "n2;s0,1s1,1;", "n2;s0,1,;", "n2;s0,1;s1,1".substring(0, 7));
            dueFault(8, "n2;s0,1;;", "n2;s0,1; ", "n2;s0,1;s1,1", "n2;s0,1;s1,", "n2;s0,1;s1", "n2;s0,1;s");
            for (char letter = 32; letter <= 126; letter++) if (letter != ';') due("for a ; " + letter, faultOf("n2;s0,1" + letter + "s1,1;"), 3);
            for (int length = 0; length <= FIRST.length(); length++) {
                String cut = FIRST.substring(0, length);
                due("fault of " + cut, faultOf(cut), length == 0 || cut.endsWith(";") ? NONE : cut.lastIndexOf(';') + 1);
            }
        });
        edge(TERMS, "numbers have one or two figures:", () -> {
            dueFault(0, "n;", "n002;", "n020;", "n+2;", "n-2;", "n 2;", "n2 ;", "n2.;", "nn2;", "nx;", "n/;", "n:;");
            dueFault(3, "n2;s,1;", "n2;s0,;", "n2;s000,1;", "n2;s0,001;", "n2;s0,100;", "n2;s0,-1;", "n2;s-0,1;", "n2;s0,+1;", "n2;s0,1a;", "n2;s0,/;", "n2;s0,:;",
                "n2;p1,100,1,1;", "n2;p1,1,100,1;", "n2;p1,1,1,100;", "n2;p001,1,1,1;", "n2;p1,1,1,;", "n2;p,1,1,1;", "n2;p1,,1,1;", "n2;p1,1,,1;");
            dueFault(NONE, "n02;", "n06;", "n2;j00,01,04,01;", "n2;s01,09;", "n2;a01,05;", "n2;l00,00;", "n2;l03,09;", "n2;p04,00,09,99;");
            RingPages x = laid("n02;j01,00,03,04;s00,07;a01,05;l02,08;p03,02,01,00;");
            due("weight(1, 0)", x.weight(1, 0), 3);
            due("cell(0, 0)", x.cell(0, 0), 7);
            due("cell(1, 1)", x.cell(1, 1), 5);
            int[] want = {2, 1, 2, 8, 3, 2, 1, 0};
            for (int what = 0; what < want.length; what++) due("count(" + what + ")", x.count(what), want[what]);
        });
    }

    private static void items() {
        edge(TERMS, "nN there are N CELLS (2 to 6), all STAYS 1, all AREAS 0;", () -> {
            for (int n = 0; n <= 99; n++) due("n" + n, faultOf("n" + n + ";"), n >= 2 && n <= 6 ? NONE : 0);
            // what was LAID ahead had other STAYS and AREAS, and so had the TEXT that was only read
            RingPages x = laid(LONGEST);
            x.wipe();
            write(x, "n6;s0,5;a0,5;").fault();
            x.wipe();
            due("lay()", write(x, LINE).lay(), 6);
            for (int c = 0; c < 6; c++) {
                due("STAY of " + c, x.cell(c, 0), 1);
                due("AREA of " + c, x.cell(c, 1), 0);
            }
        });
        edge(TERMS, "once, first of all ITEMS", () -> {
            dueFault(3, "n2;n2;", "n2;n3;", "n6;n2;j0,1,1,1;", "n2;n", "n2;n9;");
            dueFault(12, PAIR + "n2;", PAIR + "n6;");
            dueFault(0, "j0,1,1,1;", "s0,1;", "a0,0;", "l0,0;", "p2,1,5,10;", "l0,0;n2;", "p2,1,5,10;n2;", "s0,1;n2;");
        });
    }

    private static void joins() {
        edge(TERMS, "jA,B,X,Y CELLS A and B (unlike, not JOINED yet) are JOINED, of WEIGHT X from A to B, Y from B to A", () -> {
            for (int n = 2; n <= 6; n++) {
                for (int c = 0; c <= 12; c++) {
                    due("from " + c + " of " + n, faultOf("n" + n + ";j" + c + ",1,1,1;"), c < n && c != 1 ? NONE : 3);
                    due("to " + c + " of " + n, faultOf("n" + n + ";j0," + c + ",1,1;"), c < n && c != 0 ? NONE : 3);
                }
            }
            dueFault(12, "n3;j0,1,1,1;j0,1,1,1;", "n3;j0,1,1,1;j1,0,1,1;", "n3;j0,1,1,4;j0,1,2,2;", "n3;j2,1,1,4;j1,2,4,1;");
            dueFault(NONE, "n3;j0,1,1,1;j0,2,1,1;", "n3;j0,1,1,1;j2,0,1,1;", ALL);
            dueFault(3, "n2;j0,1,1;", "n2;j0,1,1,1,1;", "n2;j0,1;", "n2;j;", "n2;j0,1,1,1", "n2;J0,1,1,1;");
            RingPages x = laid("n3;j2,0,1,2;j1,2,3,4;");
            int[][] want = {{0, 0, 2}, {0, 0, 3}, {1, 4, 0}};
            for (int a = 0; a < 3; a++) for (int b = 0; b < 3; b++) if (a != b) due("weight(" + a + ", " + b + ")", x.weight(a, b), want[a][b]);
        });
    }

    private static void numbersOfCells() {
        edge(TERMS, "sA,S STAY of CELL A is S (the last one of each)", () -> {
            for (int c = 0; c <= 12; c++) due("STAY of " + c, faultOf("n3;s" + c + ",1;"), c < 3 ? NONE : 3);
            dueFault(3, "n2;s0;", "n2;s0,1,1;", "n2;s;", "n2;S0,1;", "n2;s0.1;");
            RingPages x = laid(RING + "s0,9;s2,3;s0,0;s2,4;");
            due("of several the last", x.cell(0, 0), 0);
            due("of several the last", x.cell(2, 0), 4);
            due("without", x.cell(1, 0), 1);
            dueFault(30 + 5, RING + "s0,9;s0,10;");
        });
        edge(TERMS, "aA,K CELL A is of AREA K (the last one of each)", () -> {
            for (int c = 0; c <= 12; c++) due("AREA of " + c, faultOf("n3;a" + c + ",1;"), c < 3 ? NONE : 3);
            dueFault(3, "n2;a0;", "n2;a0,1,1;", "n2;a;", "n2;A0,1;");
            RingPages x = laid(RING + "a0,5;a2,3;a0,0;a2,4;");
            dueAreas(x, 0, 0, 4);
            dueFault(30 + 5, RING + "a0,5;a0,6;");
        });
    }

    private static void laws() {
        edge(TERMS, "lK,V LAW of KIND K and VALUE V (0 CROSSING, V 0; 1 MOVES, 2 TIME, 3 FAR, V 1 to 9; 0, 0 without; of several the last one counts)", () -> {
            for (int k = 0; k <= 12; k++) {
                for (int v = 0; v <= 12; v++) {
                    boolean so = k == 0 ? v == 0 : k <= 3 && v >= 1 && v <= 9;
                    due("l" + k + "," + v, faultOf("n2;l" + k + "," + v + ";"), so ? NONE : 3);
                    if (so) {
                        RingPages x = laid(PAIR + "l" + k + "," + v + ";");
                        due("KIND", x.count(2), k);
                        due("VALUE", x.count(3), v);
                    }
                }
            }
            dueFault(3, "n2;l0;", "n2;l;", "n2;l1,1,1;", "n2;L0,0;");
            RingPages without = laid(PAIR);
            due("KIND without", without.count(2), 0);
            due("VALUE without", without.count(3), 0);
            RingPages last = laid(PAIR + "l3,9;l1,2;l2,7;");
            due("KIND of the last", last.count(2), 2);
            due("VALUE of the last", last.count(3), 7);
            RingPages back = laid(PAIR + "l3,9;l0,0;");
            due("KIND of the last", back.count(2), 0);
            due("VALUE of the last", back.count(3), 0);
            RingPages anew = laid(PAIR + "l3,9;");
            anew.wipe();
            due("lay() of a TEXT without", write(anew, PAIR).lay(), 2);
            due("KIND of what was LAID ahead is forgotten", anew.count(2), 0);
        });
    }

    private static void duePrices(String text, int... want) {
        RingPages x = laid(text);
        for (int i = 0; i < 4; i++) due(text + ": count(" + (4 + i) + ")", x.count(4 + i), want[i]);
    }

    private static void prices() {
        edge(TERMS, "pR,C,U,Q R ROUNDS at most (1 to 4), a CELL PAGED costs C (0 to 99), an UPDATE U (0 to 99), a CALL comes in a TICK by Q of 100 (0 to 99) "
            + "(2, 1, 5, 10 without; of several the last one counts)", () -> {
            for (int r = 0; r <= 12; r++) due("R " + r, faultOf("n2;p" + r + ",1,1,1;"), r >= 1 && r <= 4 ? NONE : 3);
            dueFault(3, "n2;p99,1,1,1;", "n2;p14,1,1,1;", "n2;p1,100,1,1;", "n2;p1,1,100,1;", "n2;p1,1,1,100;", "n2;p1,1,1;", "n2;p1,1,1,1,1;", "n2;p;", "n2;P1,1,1,1;");
            duePrices(PAIR, 2, 1, 5, 10);
            duePrices(PAIR + "p1,0,0,0;", 1, 0, 0, 0);
            duePrices(PAIR + "p4,99,99,99;", 4, 99, 99, 99);
            duePrices(PAIR + "p4,98,97,96;", 4, 98, 97, 96);
            duePrices(PAIR + "p4,98,97,96;p3,1,2,3;", 3, 1, 2, 3);
            duePrices(PAIR + "p3,1,2,3;s0,1;p2,1,5,10;", 2, 1, 5, 10);
            RingPages anew = laid(PAIR + "p4,9,8,7;");
            anew.wipe();
            write(anew, PAIR).lay();
            due("R of what was LAID ahead is forgotten", anew.count(4), 2);
            due("C of what was LAID ahead is forgotten", anew.count(5), 1);
        });
    }

    private static void faults() {
        edge(TERMS, "FAULT: the place of the first letter of the first ITEM that is not so.", () -> {
            dueFault(0, "x", "n9;s9,9;", "n1;j0,1,1,1;", "~", " ", "0", ",", "N2;");
            dueFault(3, "n2;s9,1;a9,1;", "n2;x;n2;", "n2;j0,1,9,1;j0,1,1,1;", "n2;x");
            dueFault(12, PAIR + "s2,1;s3,1;", PAIR + "l0,1;", PAIR + "p0,1,1,1;", PAIR + "a0,6;");
            for (char letter = 32; letter <= 126; letter++) {
                due("two numbers behind " + letter, faultOf("n2;" + letter + "0,0;"), "sal".indexOf(letter) >= 0 ? NONE : 3);
                due("four numbers behind " + letter, faultOf("n2;" + letter + "1,0,1,1;"), "jp".indexOf(letter) >= 0 ? NONE : 3);
                due("one number behind " + letter, faultOf(letter + "2;"), letter == 'n' ? NONE : 0);
                if (letter != ',') due("for a , " + letter, faultOf("n2;s0" + letter + "1;"), 3);
            }
            // at the end of the longest TEXT
            dueFault(193, LONGEST.substring(0, 193) + "l02,9.;", LONGEST.substring(0, 199) + ",", LONGEST.substring(0, 199));
            dueFault(199, LONGEST.substring(0, 193) + "l2,09;" + "x", LONGEST.substring(0, 193) + "l2,09;" + ";", LONGEST.substring(0, 193) + "l2,09;" + "n",
                LONGEST.substring(0, 193) + "l2,09;" + "s");
            // numbers that the end of it cuts off
            dueFault(198, LONGEST.substring(0, 193) + "l2,9;" + "s0", LONGEST.substring(0, 193) + "l2,9;" + "s,");
            dueFault(197, LONGEST.substring(0, 188) + "p1,1,1,1;" + "s0,", LONGEST.substring(0, 188) + "p1,1,1,1;" + "s01");
        });
    }

    private static void laying() {
        edge(TERMS, "LAID is a TEXT without FAULT that tells of CELLS that hang together (NO else; at first " + FIRST + ").", () -> {
            due("the first TEXT", layOf(FIRST), 6);
            for (String text : new String[] {"", "n2;", "n2", PAIR + "x", PAIR.substring(0, 11), PAIR + ";", PAIR + "s2,1;", "n3;j0,1,1,1;", FIRST + "n6;", FIRST + "j0,1,1,1;"}) {
                due("lay of " + text, layOf(text), NO);
            }
        });
        edge(TERMS, "THE TEXT stays when it is LAID.", () -> {
            RingPages x = laid(PAIR);
            due("count(9)", x.count(9), 12);
            due("fault()", x.fault(), NONE);
            due("lay() again", x.lay(), 2);
            due("a letter comes behind it", x.write('s'), 13);
            due("fault()", x.fault(), 12);
            due("lay()", x.lay(), NO);
            due("wipe()", x.wipe(), 13);
            RingPages full = laid(LONGEST);
            due("count(9)", full.count(9), 200);
            due("write", full.write('x'), FULL);
            RingPages refused = write(new RingPages(), "n2;");
            due("lay()", refused.lay(), NO);
            due("THE TEXT stays if it is not LAID, too", refused.count(9), 3);
        });
    }

    private static void newObject() {
        edge(1, "As told; THE TEXT is empty.", () -> {
            RingPages x = new RingPages();
            due("count(9)", x.count(9), 0);
            due("wipe()", x.wipe(), 0);
            due("fault()", x.fault(), NONE);
            due("lay() of no TEXT", x.lay(), NO);
            due("undo()", x.undo(), NO);
            due("write", x.write('n'), 1);
            RingPages told = write(new RingPages(), FIRST);
            due("lay() of the first TEXT", told.lay(), 6);
            told.wipe();
            same("lay() of the first TEXT", new RingPages(), told);
            // what one object is told is not told to another
            RingPages one = busy();
            same("calls of another object", new RingPages(), new RingPages());
            due("count(9)", one.count(9), 5);
        });
    }

    private static void writing() {
        edge(2, "A letter (32 to 126, as in ASCII) comes behind THE TEXT: how long it is.", () -> {
            RingPages x = new RingPages();
            for (int letter = 32; letter <= 126; letter++) due("write(" + letter + ")", x.write(letter), letter - 31);
            due("count(9)", x.count(9), 95);
            due("n2; in this order", faultOf("n2;"), NONE);
            due("n;2 in this order", faultOf("n;2"), 0);
        });
        edge(2, "BAD;", () -> {
            for (int letter : outside(32, 126)) {
                refused(Edge::busy, "write(" + letter + ")", y -> y.write(letter), BAD);
                refused(() -> write(new RingPages(), LONGEST), "write(" + letter + ") to 200", y -> y.write(letter), BAD);
            }
        });
        edge(2, "FULL: it has 200.", () -> {
            RingPages x = new RingPages();
            for (int i = 1; i <= 200; i++) due("write", x.write('x'), i);
            for (int letter : new int[] {32, 59, 110, 126}) due("write(" + letter + ") to 200", x.write(letter), FULL);
            due("count(9)", x.count(9), 200);
            due("wipe()", x.wipe(), 200);
            due("write", x.write(126), 1);
            refused(() -> write(new RingPages(), LONGEST), "write(59) to 200", y -> y.write(59), FULL);
            refused(() -> write(new RingPages(), LONGEST.substring(0, 199) + "9"), "write(59) to 200", y -> y.write(59), FULL);
        });
    }

    private static void wiping() {
        edge(3, "THE TEXT is empty: how long it was.", () -> {
            RingPages x = new RingPages();
            due("wipe() of none", x.wipe(), 0);
            x.write(32);
            due("wipe() of one", x.wipe(), 1);
            due("wipe() again", x.wipe(), 0);
            due("fault()", x.fault(), NONE);
            write(x, LONGEST);
            due("wipe() of 200", x.wipe(), 200);
            due("count(9)", x.count(9), 0);
            // nothing of the letters that were there is read
            write(x, "n6");
            due("fault()", x.fault(), 0);
            x.wipe();
            write(x, PAIR);
            due("lay()", x.lay(), 2);
            due("STAY", x.cell(0, 0), 1);
            // what is LAID, and what can be UNDONE, stays
            RingPages told = laid(RING + "s0,4;", 1, 2);
            due("wipe()", told.wipe(), 35);
            due("cell(0, 0)", told.cell(0, 0), 4);
            dueHandset(told, 2, 0, 2, 2, 0, 0, 0);
            due("count(8)", told.count(8), 2);
        });
    }

    private static void faultCall() {
        edge(4, "FAULT of THE TEXT.", () -> {
            refused(Edge::busy, "fault()", y -> y.fault(), 3);
            refused(() -> write(busy(), "n7;"), "fault()", y -> y.fault(), 3);
            RingPages x = write(new RingPages(), "n2;s0,1");
            due("fault()", x.fault(), 3);
            due("fault() again", x.fault(), 3);
            x.write(';');
            due("fault() behind one letter more", x.fault(), NONE);
        });
        edge(4, "NONE.", () -> {
            dueFault(NONE, "", "n2;", "n3;j0,1,1,1;", FIRST, LONGEST);
            refused(() -> write(new RingPages(), PAIR), "fault()", y -> y.fault(), NONE);
        });
    }

    private static void layCall() {
        edge(5, "LAID: how many CELLS; the HANDSET at CELL 0, REGISTERED there, no COST so far, nothing can be UNDONE.", () -> {
            RingPages x = laid(RING + "a1,1;a2,2;p1,9,9,9;", 1, 2, 2, 1);
            x.page();
            must("COST ahead", x.handset(6) > 0);
            must("to be UNDONE ahead", x.count(8) > 0);
            due("lay()", x.lay(), 3);
            dueHandset(x, 0, 0, 0, 0, 0, 0, 0);
            due("where()", x.where(), 1);
            due("count(8)", x.count(8), 0);
            due("undo()", x.undo(), NO);
            // a CELL at which it was is there no more
            RingPages fewer = laid(LINE, 1, 2, 3, 4, 5);
            fewer.wipe();
            due("lay() of fewer", write(fewer, PAIR).lay(), 2);
            dueHandset(fewer, 0, 0, 0, 0, 0, 0, 0);
            fewer.wipe();
            due("lay() of more", write(fewer, LINE).lay(), 6);
            due("wide(0, 5)", fewer.wide(0, 5), 5);
            same("a TEXT LAID behind others", behindOthers(FIRST), laid(FIRST));
            same("a TEXT LAID behind others", behindOthers(PAIR), laid(PAIR));
            same("a TEXT LAID behind others", behindOthers(LINE), laid(LINE));
        });
        edge(5, "NO.", () -> {
            for (String text : new String[] {"", "n2;", "n2;j0,1,1,1", "n3;j0,1,1,1;", "n2;j0,1,1,1;s0,10;", "n6;s0,9;s1,9;a1,5;l3,9;p4,9,9,9;"}) {
                refused(() -> onlyText(busy(), text), "lay() of " + text, y -> y.lay(), NO);
                refused(() -> onlyText(busyByFar(), text), "lay() of " + text, y -> y.lay(), NO);
            }
        });
    }

    private static RingPages onlyText(RingPages x, String text) {
        x.wipe();
        return write(x, text);
    }

    /** Behind each of the others much changes, so that there is much to be forgotten. */
    private static RingPages behindOthers(String last) {
        RingPages x = new RingPages();
        for (String text : new String[] {RING + "s0,0;", last}) {
            ticks(x, 1, 0, 1);
            x.page();
            x.law(2, 1);
            ticks(x, 0, 1);
            x.law(1, 7);
            x.set(1, 1, 4);
            ticks(x, 0, 1);
            onlyText(x, text).lay();
        }
        return x;
    }
}
