/** Each promise by number: ordinary inputs, the edges that the document names, wrong inputs. */
public final class PromisesTest {
    private static final int BAD = -1, NO = -2, FULL = -3, NONE = -4;
    private static final int LOW = Integer.MIN_VALUE, HIGH = Integer.MAX_VALUE;

    private static int asked, wrong;
    private static String promise = "";
    private static RingPages x;

    public static void main(String[] args) {
        newObject();
        writeAndWipe();
        fault();
        lay();
        layLeavesOrTakes();
        layForgetsWhatWasRead();
        setStay();
        setArea();
        law();
        give();
        giveIsAChange();
        undo();
        undoKinds();
        undoBehindLay();
        cell();
        weight();
        wide();
        tick();
        tickByLaws();
        page();
        handset();
        where();
        whereByMoves();
        whereWithoutStay();
        round();
        roundTies();
        chance();
        mean();
        meanAtItsMost();
        bestAndLeast();
        bestTies();
        walk();
        walkByLaws();
        count();
        System.out.println(wrong == 0 ? asked + " answers are as promised" : wrong + " answers are not as promised");
        if (wrong != 0) System.exit(1);
    }

    private static void begin(String name) {
        promise = name;
        x = new RingPages();
    }

    private static void due(String call, long got, long want) {
        asked++;
        if (got != want) {
            wrong++;
            System.out.println(promise + ": " + call + " answered " + got + ", due is " + want);
        }
    }

    private static void text(String text) {
        x.wipe();
        for (int i = 0; i < text.length(); i++) x.write(text.charAt(i));
    }

    private static void laid(String name, String text, int cells) {
        begin(name);
        text(text);
        due("lay " + text, x.lay(), cells);
    }

    private static void dueHandset(int... want) {
        for (int what = 0; what < want.length; what++) due("handset(" + what + ")", x.handset(what), want[what]);
    }

    private static void dueFraction(String call, long above, long below, long wantAbove, long wantBelow) {
        due(call + " above", above, wantAbove);
        due(call + " below", below, wantBelow);
    }

    private static void dueMean(int what, long above, long below) {
        dueFraction("mean(" + what + ")", x.mean(what, 0), x.mean(what, 1), above, below);
    }

    private static void dueAreas(int... want) {
        for (int c = 0; c < want.length; c++) due("cell(" + c + ", 1)", x.cell(c, 1), want[c]);
    }

    private static void dueBest(int... want) {
        for (int c = 0; c < want.length; c++) due("best(" + c + ")", x.best(c), want[c]);
    }

    private static void dueRounds(int... want) {
        due("round(-1)", x.round(-1), want.length);
        for (int k = 0; k < want.length; k++) due("round(" + k + ")", x.round(k), want[k]);
        due("round(" + want.length + ")", x.round(want.length), NONE);
        due("round(HIGH)", x.round(HIGH), NONE);
    }

    private static void ticks(int... cells) {
        for (int c : cells) {
            int got = x.tick(c);
            due("tick(" + c + ") goes", got == 0 || got == 1 ? 1 : 0, 1);
        }
    }

    private static void newObject() {
        begin("1 new object");
        int[] counts = {6, 7, 0, 0, 2, 1, 5, 10, 0, 0};
        for (int what = 0; what < counts.length; what++) due("count(" + what + ")", x.count(what), counts[what]);
        int[][] weights = {
            {0, 2, 0, 0, 0, 2}, {1, 0, 1, 0, 1, 0}, {0, 1, 0, 3, 0, 0},
            {0, 0, 1, 0, 1, 0}, {0, 1, 0, 2, 0, 1}, {2, 0, 0, 0, 1, 0}};
        int[] stays = {1, 1, 4, 1, 1, 1};
        for (int a = 0; a < 6; a++) {
            due("stay " + a, x.cell(a, 0), stays[a]);
            due("area " + a, x.cell(a, 1), a < 3 ? 0 : 1);
            for (int b = 0; b < 6; b++) if (a != b) due("weight " + a + " " + b, x.weight(a, b), weights[a][b]);
        }
        dueHandset(0, 0, 0, 0, 0, 0, 0);
        due("fault()", x.fault(), NONE);
        due("lay()", x.lay(), NO);
        due("undo()", x.undo(), NO);
        due("BAD", RingPages.BAD, BAD);
        due("NO", RingPages.NO, NO);
        due("FULL", RingPages.FULL, FULL);
        due("NONE", RingPages.NONE, NONE);
    }

    private static void writeAndWipe() {
        begin("2 write, 3 wipe");
        for (int letter : new int[] {LOW, -1, 0, 31, 127, 128, 256 + 65, HIGH}) due("write(" + letter + ")", x.write(letter), BAD);
        due("count(9)", x.count(9), 0);
        due("wipe()", x.wipe(), 0);
        due("write(32)", x.write(32), 1);
        due("write(126)", x.write(126), 2);
        for (int i = 3; i <= 200; i++) due("write(59)", x.write(59), i);
        due("write(59)", x.write(59), FULL);
        due("write(31)", x.write(31), BAD);
        due("write(127)", x.write(127), BAD);
        due("count(9)", x.count(9), 200);
        due("wipe()", x.wipe(), 200);
        due("count(9)", x.count(9), 0);
        due("wipe()", x.wipe(), 0);
        due("write(110)", x.write(110), 1);
        due("count(8)", x.count(8), 0);
        due("count(0)", x.count(0), 6);
    }

    private static void dueFault(String text, int want) {
        text(text);
        due("fault of " + text, x.fault(), want);
        due("fault of " + text + " again", x.fault(), want);
        due("count(9)", x.count(9), text.length());
    }

    private static void fault() {
        begin("4 fault");
        String[] right = {"", "n2;", "n6;", "n02;", "n06;", "n3;j0,1,1,4;j1,2,4,1;j2,0,2,3;", "n2;j1,0,04,01;", "n2;s0,0;s1,9;s1,09;",
            "n2;a0,0;a1,5;", "n2;a0,05;", "n2;s0,1;s0,2;a1,1;a1,0;", "n2;l0,0;", "n2;l0,00;", "n2;l1,1;", "n2;l1,9;l2,1;l2,9;l3,1;l3,9;",
            "n2;p1,0,0,0;", "n2;p4,99,99,99;", "n2;p1,0,0,0;p2,1,1,1;", "n2;p01,00,09,07;", "n6;j5,4,1,1;s5,1;a5,1;"};
        for (String text : right) dueFault(text, NONE);
        String[] wrongAtThree = {"n2;n2;", "n2;;", "n2;j0,1,1,1", "n2;j0,1,1;", "n2;j0,1,1,1,1;", "n2;j0,0,1,1;", "n2;j0,2,1,1;",
            "n2;j2,0,1,1;", "n2;j0,1,0,1;", "n2;j0,1,1,0;", "n2;j0,1,5,1;", "n2;j0,1,1,5;", "n2;j,1,1,1;", "n2;j00,001,1,1;", "n2;s0,10;",
            "n2;s2,1;", "n2;s0;", "n2;s0,;", "n2;s0,1,1;", "n2;s0,001;", "n2;a0,6;", "n2;a2,0;", "n2;a0,10;", "n2;a0;", "n2;l0,1;", "n2;l1,0;",
            "n2;l1,10;", "n2;l2,0;", "n2;l3,0;", "n2;l3,10;", "n2;l4,1;", "n2;l1;", "n2;p0,1,1,1;", "n2;p5,1,1,1;", "n2;p1,100,1,1;",
            "n2;p1,1,100,1;", "n2;p1,1,1,100;", "n2;p1,1,1;", "n2;p1,1,1,1,1;", "n2;x0,1;", "n2; ", "n2;s0,1 ;", "n2;s 0,1;", "n2;s-1,1;",
            "n2;S0,1;", "n2;s0.1;", "n2;s0,1:", "n2;s", "n2;s0", "n2;s0,", "n2;s0,1", "n2;n"};
        for (String text : wrongAtThree) dueFault(text, 3);
        String[] wrongAtOnce = {"n", "n2", "n1;", "n0;", "n7;", "n10;", "n99;", "n002;", "n2,;", "n;", "n2,2;", ";", " n2;", "N2;", "j0,1,1,1;",
            "s0,1;n2;", "l1,1;n2;", "p1,1,1,1;n2;", "a0,1;", "2;"};
        for (String text : wrongAtOnce) dueFault(text, 0);
        dueFault("n2;j0,1,1,1;j0,1,1,1;", 12);
        dueFault("n2;j0,1,1,1;j1,0,1,1;s0,99;", 12);
        dueFault("n3;j0,1,1,1;j1,2,1,1;s3,1;s0,10;", 21);
        dueFault("n2;s0,1;a0,9;n2;", 8);
        dueFault("n2;" + "s0,9;".repeat(39) + "s0", 198);
        dueFault("n2;" + "s0,9;".repeat(39) + ";;", 198);
        dueFault("n2;" + "s0,9;".repeat(38) + "s00,09;", NONE);
    }

    private static void lay() {
        laid("5 lay", "n2;j0,1,3,4;", 2);
        int[] counts = {2, 1, 0, 0, 2, 1, 5, 10, 0, 12};
        for (int what = 0; what < counts.length; what++) due("count(" + what + ")", x.count(what), counts[what]);
        for (int c = 0; c < 2; c++) {
            due("stay", x.cell(c, 0), 1);
            due("area", x.cell(c, 1), 0);
        }
        due("weight(0, 1)", x.weight(0, 1), 3);
        due("weight(1, 0)", x.weight(1, 0), 4);
        due("cell(2, 0)", x.cell(2, 0), BAD);

        laid("5 lay, the last counts",
            "n3;j2,1,1,2;j0,2,3,4;s1,5;s1,6;a2,4;a2,3;l1,4;l3,7;p1,1,1,1;p4,98,97,96;", 3);
        int[] more = {3, 2, 3, 7, 4, 98, 97, 96, 0};
        for (int what = 0; what < more.length; what++) due("count(" + what + ")", x.count(what), more[what]);
        due("stay", x.cell(1, 0), 6);
        due("area", x.cell(2, 1), 3);
        due("weight(2, 1)", x.weight(2, 1), 1);
        due("weight(1, 2)", x.weight(1, 2), 2);
        due("weight(0, 1)", x.weight(0, 1), 0);
        due("weight(2, 0)", x.weight(2, 0), 4);
        text("n2;j0,1,1,1;");
        due("lay() of less", x.lay(), 2);
        int[] less = {2, 1, 0, 0, 2, 1, 5, 10, 0};
        for (int what = 0; what < less.length; what++) due("count(" + what + ")", x.count(what), less[what]);
        due("stay", x.cell(1, 0), 1);
    }

    private static void layLeavesOrTakes() {
        begin("5 lay: NO changes nothing");
        ticks(1, 2, 3);
        x.page();
        for (String text : new String[] {"", "n2;", "n3;j0,1,1,1;", "n4;j0,1,1,1;j2,3,1,1;", "n6;j0,1,1,1;j1,2,1,1;j0,2,1,1;j3,4,1,1;j4,5,1,1;",
            "n2;j0,1,1,1;s0,10;", "n2;j0,1,1,1"}) {
            text(text);
            due("lay of " + text, x.lay(), NO);
            due("count(0)", x.count(0), 6);
            due("count(1)", x.count(1), 7);
            due("count(8)", x.count(8), 4);
            due("count(9)", x.count(9), text.length());
            due("cell(2, 0)", x.cell(2, 0), 4);
            dueHandset(3, 3, 0, 0, 1, 1, 6);
        }
        text("n2;j0,1,1,1;");
        due("lay()", x.lay(), 2);
        dueHandset(0, 0, 0, 0, 0, 0, 0);
        due("count(8)", x.count(8), 0);
        due("count(9)", x.count(9), 12);
        due("undo()", x.undo(), NO);
        ticks(1);
        due("lay() of the same TEXT", x.lay(), 2);
        dueHandset(0, 0, 0, 0, 0, 0, 0);
        due("wipe()", x.wipe(), 12);
        due("count(0)", x.count(0), 2);
    }

    private static void layForgetsWhatWasRead() {
        begin("5 lay: nothing of a TEXT that was only read");
        String rich = "n3;j0,1,4,3;j1,2,2,4;j2,0,3,3;s0,9;s1,8;s2,7;a0,5;a1,4;a2,3;l3,9;p4,9,9,9;";
        for (int i = 0; i < 3; i++) {
            text(rich);
            due("fault()", x.fault(), NONE);
            text("n3;j0,1,1,1;j0,2,2,2;");
            due("lay()", x.lay(), 3);
            int[] counts = {3, 2, 0, 0, 2, 1, 5, 10, 0, 21};
            for (int what = 0; what < counts.length; what++) due("count(" + what + ")", x.count(what), counts[what]);
            int[][] cells = {{1, 0, 4, 6, 3}, {1, 0, 2, 1, 3}, {1, 0, 3, 1, 3}};
            for (int c = 0; c < 3; c++)
                for (int what = 0; what < 5; what++) due("cell(" + c + ", " + what + ")", x.cell(c, what), cells[c][what]);
            due("wide(1, 2)", x.wide(1, 2), 2);
            due("weight(1, 2)", x.weight(1, 2), 0);
            text(rich);
            due("lay()", x.lay(), 3);
            due("wide(1, 2)", x.wide(1, 2), 1);
            due("cell(2, 2)", x.cell(2, 2), 14);
        }
    }

    private static void setStay() {
        begin("6 set STAY");
        ticks(1);
        due("set(2, 0, 9)", x.set(2, 0, 9), 4);
        due("cell(2, 0)", x.cell(2, 0), 9);
        due("cell(2, 2)", x.cell(2, 2), 13);
        dueHandset(1, 1, 0, 0, 0, 0, 0);
        due("where()", x.where(), 2);
        due("set(2, 0, 9)", x.set(2, 0, 9), NO);
        due("set(2, 0, 0)", x.set(2, 0, 0), 9);
        due("set(2, 0, 0)", x.set(2, 0, 0), NO);
        due("count(8)", x.count(8), 3);
        for (int c : new int[] {LOW, -1, 6, HIGH}) due("set(" + c + ", 0, 1)", x.set(c, 0, 1), BAD);
        for (int what : new int[] {LOW, -1, 2, HIGH}) due("set(0, " + what + ", 1)", x.set(0, what, 1), BAD);
        for (int v : new int[] {LOW, -1, 10, HIGH}) due("set(0, 0, " + v + ")", x.set(0, 0, v), BAD);
        due("count(8)", x.count(8), 3);
        ticks(2);
        due("set(2, 0, 0) leaves where REGISTERED", x.set(2, 0, 0), NO);
        dueHandset(2, 1, 1, 1, 0, 0, 0);
    }

    private static void setArea() {
        begin("6 set AREA");
        ticks(1, 1);
        due("set(1, 1, 5)", x.set(1, 1, 5), 0);
        dueHandset(1, 1, 0, 0, 0, 0, 0);
        due("cell(1, 1)", x.cell(1, 1), 5);
        due("cell(1, 4)", x.cell(1, 4), 1);
        due("cell(0, 4)", x.cell(0, 4), 2);
        due("set(1, 1, 5)", x.set(1, 1, 5), NO);
        for (int v : new int[] {LOW, -1, 6, 9, HIGH}) due("set(0, 1, " + v + ")", x.set(0, 1, v), BAD);
        for (int c : new int[] {LOW, -1, 6, HIGH}) due("set(" + c + ", 1, 1)", x.set(c, 1, 1), BAD);
        due("set(1, 1, 0)", x.set(1, 1, 0), 5);
        laid("6 set, fewer CELLS", "n3;j0,1,1,1;j1,2,1,1;", 3);
        due("set(2, 1, 1)", x.set(2, 1, 1), 0);
        due("set(3, 1, 1)", x.set(3, 1, 1), BAD);
    }

    private static void law() {
        begin("7 law");
        ticks(1);
        due("law(0, 0)", x.law(0, 0), NO);
        dueHandset(1, 0, 1, 1, 0, 0, 0);
        due("law(1, 9)", x.law(1, 9), 0);
        dueHandset(1, 1, 0, 0, 0, 0, 0);
        due("law(1, 9)", x.law(1, 9), NO);
        due("law(1, 1)", x.law(1, 1), 19);
        due("law(2, 1)", x.law(2, 1), 11);
        due("law(3, 7)", x.law(3, 7), 21);
        due("count(2)", x.count(2), 3);
        due("count(3)", x.count(3), 7);
        int[][] bad = {{-1, 0}, {-1, 1}, {4, 1}, {LOW, 1}, {HIGH, 1}, {0, 1}, {0, -1}, {0, 9}, {0, 10}, {1, 0}, {2, 0}, {3, 0}, {1, 10}, {2, 10}, {3, 10},
            {1, -1}, {3, HIGH}, {3, LOW}};
        for (int[] b : bad) due("law(" + b[0] + ", " + b[1] + ")", x.law(b[0], b[1]), BAD);
        due("count(8)", x.count(8), 5);
        due("law(0, 0)", x.law(0, 0), 37);
        due("law(2, 9)", x.law(2, 9), 0);
    }

    private static void give() {
        // apart costs 1/3 of U and C Q by 100, together twice C Q by 100
        laid("8 give", "n2;j0,1,1,1;s0,3;a0,3;a1,3;p2,99,1,99;", 2);
        ticks(1);
        due("give()", x.give(), 2);
        dueAreas(0, 1);
        dueHandset(1, 1, 0, 0, 0, 0, 0);
        laid("8 give, some", "n2;j0,1,1,1;s0,3;a1,3;p2,99,1,99;", 2);
        due("give()", x.give(), 1);
        dueAreas(0, 1);
        laid("8 give, together", "n2;j0,1,1,1;s0,3;a0,2;a1,3;p2,1,5,10;", 2);
        due("give()", x.give(), 2);
        dueAreas(0, 0);
    }

    private static void giveIsAChange() {
        begin("8 give of what is so");
        due("give()", x.give(), 3);
        ticks(1);
        due("give()", x.give(), 0);
        dueHandset(1, 1, 0, 0, 0, 0, 0);
        due("count(8)", x.count(8), 3);
        due("undo()", x.undo(), 2);
        dueHandset(1, 0, 1, 1, 0, 0, 0);
        due("undo()", x.undo(), 1);
        due("undo()", x.undo(), 0);
        dueAreas(0, 0, 0, 1, 1, 1);
    }

    private static void undo() {
        begin("9 undo");
        due("undo()", x.undo(), NO);
        ticks(0, 0, 1, 1, 2, 2, 1, 0);
        due("count(8)", x.count(8), 6);
        dueHandset(0, 0, 4, 8, 0, 0, 0);
        int[] cells = {1, 2, 2, 1, 1, 0};
        int[] moves = {3, 2, 2, 1, 1, 0};
        for (int i = 0; i < 6; i++) {
            due("undo()", x.undo(), 5 - i);
            due("count(8)", x.count(8), 5 - i);
            dueHandset(cells[i], 0, moves[i], 7 - i, 0, 0, 0);
        }
        due("undo()", x.undo(), NO);
        dueHandset(0, 0, 0, 2, 0, 0, 0);
        ticks(5);
        due("count(8)", x.count(8), 1);
        due("undo()", x.undo(), 0);
        dueHandset(0, 0, 0, 2, 0, 0, 0);
        due("undo()", x.undo(), NO);
        for (int i = 0; i < 20; i++) x.set(0, 0, i % 2 == 0 ? 5 : 6);
        for (int i = 0; i < 6; i++) {
            due("undo()", x.undo(), 5 - i);
            due("cell(0, 0)", x.cell(0, 0), i % 2 == 0 ? 5 : 6);
        }
        due("undo()", x.undo(), NO);
    }

    private static void undoKinds() {
        begin("9 undo of each kind");
        ticks(1, 2);
        due("tick(3)", x.tick(3), 1);
        dueHandset(3, 3, 0, 0, 1, 0, 5);
        due("undo()", x.undo(), 2);
        dueHandset(2, 0, 2, 2, 0, 0, 0);
        due("page()", x.page(), 1);
        dueHandset(2, 2, 0, 0, 0, 1, 1);
        due("undo()", x.undo(), 2);
        dueHandset(2, 0, 2, 2, 0, 0, 0);
        due("law(2, 5)", x.law(2, 5), 0);
        due("undo()", x.undo(), 2);
        dueHandset(2, 0, 2, 2, 0, 0, 0);
        due("count(2)", x.count(2), 0);
        due("count(3)", x.count(3), 0);
        due("set(0, 0, 9)", x.set(0, 0, 9), 1);
        due("undo()", x.undo(), 2);
        due("cell(0, 0)", x.cell(0, 0), 1);
        dueFraction("chance(0)", x.chance(0, 0), x.chance(0, 1), 47, 421);
        dueHandset(2, 0, 2, 2, 0, 0, 0);
        due("set(0, 1, 4)", x.set(0, 1, 4), 0);
        due("undo()", x.undo(), 2);
        dueAreas(0, 0, 0, 1, 1, 1);
        due("give()", x.give(), 3);
        due("undo()", x.undo(), 2);
        dueAreas(0, 0, 0, 1, 1, 1);
        dueHandset(2, 0, 2, 2, 0, 0, 0);
        due("tick(0)", x.tick(0), NO);
        due("tick(9)", x.tick(9), BAD);
        due("law(0, 0)", x.law(0, 0), NO);
        due("walk(1, 1, 0)", x.walk(1, 1, 0) >= 0 ? 1 : 0, 1);
        due("lay()", x.lay(), NO);
        due("count(8)", x.count(8), 2);
        x.write('n');
        due("undo() leaves THE TEXT", x.undo(), 1);
        due("count(9)", x.count(9), 1);
    }

    private static void undoBehindLay() {
        begin("9 undo behind LAID");
        ticks(1, 2, 2);
        text("n2;j0,1,1,1;");
        due("lay()", x.lay(), 2);
        due("undo()", x.undo(), NO);
        ticks(1);
        due("undo()", x.undo(), 0);
        due("undo()", x.undo(), NO);
        due("count(0)", x.count(0), 2);
    }

    private static void cell() {
        laid("10 cell", "n4;j0,1,1,2;j0,2,3,4;j0,3,2,1;s0,9;s1,0;a1,2;a3,2;", 4);
        int[][] want = {{9, 0, 15, 14, 2}, {0, 2, 2, 1, 2}, {1, 0, 5, 1, 2}, {1, 2, 2, 1, 2}};
        for (int c = 0; c < 4; c++)
            for (int what = 0; what < 5; what++) due("cell(" + c + ", " + what + ")", x.cell(c, what), want[c][what]);
        for (int c : new int[] {LOW, -1, 4, 6, HIGH}) due("cell(" + c + ", 0)", x.cell(c, 0), BAD);
        for (int what : new int[] {LOW, -1, 5, HIGH}) due("cell(0, " + what + ")", x.cell(0, what), BAD);
        due("set(2, 1, 2)", x.set(2, 1, 2), 0);
        due("cell(0, 4)", x.cell(0, 4), 1);
        due("cell(3, 4)", x.cell(3, 4), 3);
    }

    private static void weight() {
        laid("11 weight", "n3;j0,1,1,2;j2,1,3,4;", 3);
        int[][] want = {{0, 1, 0}, {2, 0, 4}, {0, 3, 0}};
        for (int a = 0; a < 3; a++)
            for (int b = 0; b < 3; b++) due("weight(" + a + ", " + b + ")", x.weight(a, b), a == b ? BAD : want[a][b]);
        for (int c : new int[] {LOW, -1, 3, HIGH}) {
            due("weight(" + c + ", 0)", x.weight(c, 0), BAD);
            due("weight(0, " + c + ")", x.weight(0, c), BAD);
            due("weight(" + c + ", " + c + ")", x.weight(c, c), BAD);
        }
    }

    private static void wide() {
        laid("12 wide", "n6;j0,1,4,4;j1,2,4,4;j2,3,4,4;j3,4,4,4;j4,5,4,4;", 6);
        for (int a = 0; a < 6; a++)
            for (int b = 0; b < 6; b++) due("wide(" + a + ", " + b + ")", x.wide(a, b), Math.abs(a - b));
        for (int c : new int[] {LOW, -1, 6, HIGH}) {
            due("wide(" + c + ", 0)", x.wide(c, 0), BAD);
            due("wide(0, " + c + ")", x.wide(0, c), BAD);
            due("wide(" + c + ", " + c + ")", x.wide(c, c), BAD);
        }
        laid("12 wide, a ring told out of order", "n6;j5,0,1,1;j3,2,1,1;j4,5,1,1;j0,1,1,1;j4,3,1,1;j2,1,1,1;", 6);
        for (int a = 0; a < 6; a++)
            for (int b = 0; b < 6; b++)
                due("wide(" + a + ", " + b + ")", x.wide(a, b), Math.min((a - b + 6) % 6, (b - a + 6) % 6));
    }

    private static void tick() {
        laid("13 tick", "n3;j0,1,1,1;j1,2,1,1;s1,0;", 3);
        due("tick(0)", x.tick(0), 0);
        dueHandset(0, 0, 0, 1, 0, 0, 0);
        due("tick(2)", x.tick(2), NO);
        for (int c : new int[] {LOW, -1, 3, 6, HIGH}) due("tick(" + c + ")", x.tick(c), BAD);
        dueHandset(0, 0, 0, 1, 0, 0, 0);
        due("count(8)", x.count(8), 1);
        due("tick(1)", x.tick(1), 0);
        due("tick(1) where STAY is 0", x.tick(1), NO);
        dueHandset(1, 0, 1, 2, 0, 0, 0);
        due("tick(2)", x.tick(2), 0);
        dueHandset(2, 0, 2, 3, 0, 0, 0);
    }

    private static void tickByLaws() {
        String line = "n4;j0,1,1,1;j1,2,1,1;j2,3,1,1;a2,1;a3,2;p2,1,7,10;";
        laid("13 tick by CROSSING", line, 4);
        due("tick(1)", x.tick(1), 0);
        due("tick(2)", x.tick(2), 1);
        dueHandset(2, 2, 0, 0, 1, 0, 7);
        due("tick(2)", x.tick(2), 0);
        due("tick(3)", x.tick(3), 1);
        due("tick(2)", x.tick(2), 1);
        due("tick(1)", x.tick(1), 1);
        dueHandset(1, 1, 0, 0, 4, 0, 28);

        laid("13 tick by MOVES", line + "l1,2;", 4);
        due("tick(0)", x.tick(0), 0);
        due("tick(1)", x.tick(1), 0);
        due("tick(1)", x.tick(1), 0);
        dueHandset(1, 0, 1, 3, 0, 0, 0);
        due("tick(0)", x.tick(0), 1);
        dueHandset(0, 0, 0, 0, 1, 0, 7);
        due("tick(1)", x.tick(1), 0);
        due("tick(2)", x.tick(2), 1);

        laid("13 tick by TIME", line + "l2,3;", 4);
        due("tick(0)", x.tick(0), 0);
        due("tick(1)", x.tick(1), 0);
        due("tick(2)", x.tick(2), 1);
        dueHandset(2, 2, 0, 0, 1, 0, 7);
        due("tick(2)", x.tick(2), 0);

        laid("13 tick by FAR", line + "l3,2;", 4);
        due("tick(1)", x.tick(1), 0);
        due("tick(0)", x.tick(0), 0);
        due("tick(1)", x.tick(1), 0);
        due("tick(2)", x.tick(2), 1);
        dueHandset(2, 2, 0, 0, 1, 0, 7);
        due("tick(3)", x.tick(3), 0);

        laid("13 tick by TIME of 1", line + "l2,1;", 4);
        due("tick(0)", x.tick(0), 1);
        due("tick(0)", x.tick(0), 1);
        laid("13 tick by FAR of 9", line + "l3,9;", 4);
        for (int c : new int[] {1, 2, 3, 2, 1, 0}) due("tick", x.tick(c), 0);
    }

    private static void page() {
        // three CELLS alike, ROUNDS 0 | 1 2 behind a TICK
        String alike = "n3;j0,1,1,1;j1,2,1,1;j2,0,1,1;l2,9;p2,7,5,10;";
        laid("14 page", alike, 3);
        due("page()", x.page(), 1);
        dueHandset(0, 0, 0, 0, 0, 1, 7);
        ticks(0);
        due("page()", x.page(), 1);
        dueHandset(0, 0, 0, 0, 0, 2, 14);
        ticks(2);
        due("page()", x.page(), 3);
        dueHandset(2, 2, 0, 0, 0, 5, 35);
        due("where()", x.where(), 4);
        due("count(8)", x.count(8), 5);
        due("undo()", x.undo(), 4);
        dueHandset(2, 0, 1, 1, 0, 2, 14);
        due("page()", x.page(), 3);
        laid("14 page in one ROUND", alike + "p1,7,5,10;", 3);
        ticks(0);
        due("page()", x.page(), 3);
        laid("14 page in three ROUNDS", alike + "p3,7,5,10;", 3);
        ticks(1);
        due("page()", x.page(), 2);
        ticks(2);
        due("page()", x.page(), 3);
        ticks(0);
        due("page()", x.page(), 1);
    }

    private static void handset() {
        begin("15 handset");
        for (int what : new int[] {LOW, -1, 7, HIGH}) due("handset(" + what + ")", x.handset(what), BAD);
        laid("15 handset, all of it", "n3;j0,1,1,1;j1,2,1,1;a2,1;p4,9,99,10;", 3);
        ticks(1, 2, 2, 1, 1, 0);
        dueHandset(0, 1, 1, 2, 2, 0, 198);
        due("page()", x.page() > 0 ? 1 : 0, 1);
        int paged = x.handset(5);
        due("COST", x.handset(6), 198 + 9 * paged);
    }

    private static void where() {
        String line = "n5;j0,1,1,1;j1,2,1,1;j2,3,1,1;j3,4,1,1;";
        laid("16 where by CROSSING", line + "a3,1;a4,1;", 5);
        due("where()", x.where(), 1);
        ticks(0);
        due("where()", x.where(), 3);
        ticks(0);
        due("where()", x.where(), 7);
        ticks(0, 0);
        due("where()", x.where(), 7);
        laid("16 where by an AREA in two pieces", line + "a2,1;", 5);
        ticks(0, 0, 0, 0, 0);
        due("where()", x.where(), 3);
        laid("16 where by TIME", line + "l2,9;", 5);
        for (int want : new int[] {1, 3, 7, 15, 31, 31}) {
            due("where()", x.where(), want);
            ticks(0);
        }
        laid("16 where by FAR", line + "l3,2;", 5);
        ticks(0, 0, 0, 0);
        due("where()", x.where(), 3);
        ticks(1);
        due("tick(2)", x.tick(2), 1);
        due("where()", x.where(), 4);
        ticks(2);
        due("where()", x.where(), 14);
        ticks(2);
        due("where()", x.where(), 14);
        laid("16 where by FAR of 1", line + "l3,1;", 5);
        ticks(0, 0, 0);
        due("where()", x.where(), 1);
    }

    private static void whereByMoves() {
        String line = "n5;j0,1,1,1;j1,2,1,1;j2,3,1,1;j3,4,1,1;";
        laid("16 where by MOVES of 1", line + "l1,1;", 5);
        ticks(0, 0, 0);
        due("where()", x.where(), 1);
        laid("16 where by MOVES of 3", line + "l1,3;", 5);
        for (int want : new int[] {1, 3, 7, 7, 7}) {
            due("where()", x.where(), want);
            ticks(0);
        }
        laid("16 where by MOVES, no staying", line + "s0,0;s1,0;s2,0;s3,0;s4,0;l1,9;", 5);
        int[] way = {1, 2, 3, 4, 3, 2, 1, 0};
        int[] want = {1, 2, 5, 10, 21, 10, 21, 10, 21};
        for (int i = 0; i < way.length; i++) {
            due("where()", x.where(), want[i]);
            due("tick", x.tick(way[i]), 0);
        }
        due("where()", x.where(), want[8]);
        due("tick(1)", x.tick(1), 1);
        due("where()", x.where(), 2);
        // three moves at most, one stay at 1 alone: in four TICKS at 1, 3 by one stay at 1; 0, 2 by two
        laid("16 where by MOVES, one CELL to stay in", line + "s0,0;s2,0;s3,0;s4,0;l1,4;", 5);
        ticks(1, 1, 1, 1);
        due("where()", x.where(), 15);
        ticks(1, 1);
        due("where()", x.where(), 15);
        laid("16 where by MOVES, no more to be spent", line + "s0,0;s2,0;s3,0;s4,0;l1,3;", 5);
        ticks(1, 1, 1);
        due("where()", x.where(), 7);
    }

    private static void whereWithoutStay() {
        laid("16 where without STAY", "n3;j0,1,1,1;j1,2,1,1;s0,0;s1,0;s2,0;", 3);
        for (int i = 0; i < 100; i++) {
            due("where()", x.where(), i == 0 ? 1 : i % 2 == 0 ? 5 : 2);
            ticks(i % 2 == 0 ? 1 : i % 4 == 1 ? 2 : 0);
        }
        laid("16 where, one CELL to stay in", "n3;j0,1,1,1;j1,2,1,1;s0,0;s1,0;", 3);
        int[] want = {1, 2, 5, 6, 7, 7};
        int[] way = {1, 2, 2, 2, 2, 2};
        for (int i = 0; i < want.length; i++) {
            due("where()", x.where(), want[i]);
            ticks(way[i]);
        }
    }

    private static void round() {
        begin("17 round");
        for (int k : new int[] {LOW, -3, -2}) due("round(" + k + ")", x.round(k), BAD);
        dueRounds(1);
        // STAYS 9, 0, 3, 1 on a whole of four: SUMS 12, 3, 6, 4, CHANCE in proportion
        String whole = "n4;j0,1,1,1;j0,2,1,1;j0,3,1,1;j1,2,1,1;j1,3,1,1;j2,3,1,1;s0,9;s1,0;s2,3;s3,1;l2,9;";
        laid("17 round", whole + "p1,1,1,1;", 4);
        ticks(1);
        dueRounds(15);
        // 0 | 2 3 1: 12 + 4 * 13 = 64; 0 2 | 3 1: 2 * 18 + 4 * 7 = 64; the shorter first ROUND is ahead
        laid("17 round, two", whole + "p2,1,1,1;", 4);
        ticks(1);
        dueRounds(1, 14);
        // 0 | 2 | 3 1: 12 + 12 + 28 = 52; 0 | 2 3 | 1: 12 + 30 + 12 = 54; 0 2 | 3 | 1: 36 + 12 + 12 = 60
        laid("17 round, three", whole + "p3,1,1,1;", 4);
        ticks(1);
        dueRounds(1, 4, 10);
        laid("17 round, four", whole + "p4,1,1,1;", 4);
        ticks(1);
        dueRounds(1, 4, 8, 2);
        // STAY told anew makes another row: 1 by 12, 0 by 12: of several the lowest
        due("set(1, 0, 9)", x.set(1, 0, 9), 0);
        ticks(3);
        dueRounds(1, 2, 4, 8);
    }

    private static void roundTies() {
        String alike = "n3;j0,1,1,1;j1,2,1,1;j2,0,1,1;l2,9;";
        laid("17 round, all alike", alike, 3);
        ticks(1);
        dueRounds(1, 6);
        laid("17 round, more ROUNDS than CELLS", alike + "p4,1,5,10;", 3);
        ticks(1);
        dueRounds(1, 2, 4);
        String six = "n6;j0,1,1,1;j0,2,1,1;j0,3,1,1;j0,4,1,1;j0,5,1,1;j1,2,1,1;j1,3,1,1;j1,4,1,1;j1,5,1,1;"
            + "j2,3,1,1;j2,4,1,1;j2,5,1,1;j3,4,1,1;j3,5,1,1;j4,5,1,1;l2,9;";
        // six alike in four ROUNDS: 1 1 2 2, 1 2 1 2, .. are as good: the first has the shorter ROUNDS ahead
        laid("17 round, six alike", six + "p4,1,5,10;", 6);
        ticks(1);
        dueRounds(1, 2, 12, 48);
        laid("17 round, six alike in three", six + "p3,1,5,10;", 6);
        ticks(1);
        dueRounds(3, 12, 48);
        laid("17 round, six alike in two", six + "p2,1,5,10;", 6);
        ticks(1);
        dueRounds(7, 56);
    }

    private static void chance() {
        laid("18 chance", "n2;j0,1,1,1;s0,3;", 2);
        dueFraction("chance(0)", x.chance(0, 0), x.chance(0, 1), 2, 3);
        dueFraction("chance(1)", x.chance(1, 0), x.chance(1, 1), 1, 3);
        for (int c : new int[] {LOW, -1, 2, HIGH}) due("chance(" + c + ", 0)", x.chance(c, 0), BAD);
        for (int part : new int[] {LOW, -1, 2, HIGH}) due("chance(0, " + part + ")", x.chance(0, part), BAD);
        due("set(0, 0, 1)", x.set(0, 0, 1), 3);
        dueFraction("chance(0)", x.chance(0, 0), x.chance(0, 1), 1, 2);
        due("undo()", x.undo(), 0);
        dueFraction("chance(0)", x.chance(0, 0), x.chance(0, 1), 2, 3);
        // without STAY it swings between the two, and yet half the time is spent in each
        laid("18 chance, no STAY", "n2;j0,1,1,4;s0,0;s1,0;", 2);
        dueFraction("chance(0)", x.chance(0, 0), x.chance(0, 1), 1, 2);
        // from 0 by 1 of 2 to 1, back by 4 of 5: 8 to 5
        laid("18 chance, WEIGHTS unlike", "n2;j0,1,1,4;", 2);
        dueFraction("chance(0)", x.chance(0, 0), x.chance(0, 1), 8, 13);
        dueFraction("chance(1)", x.chance(1, 0), x.chance(1, 1), 5, 13);
        // round a ring more is moved one way than the other
        laid("18 chance, a ring", "n3;j0,1,2,1;j1,2,3,1;j2,0,1,2;s0,0;s1,0;s2,0;", 3);
        // trees to 0: w10 w20 + w10 w21 + w12 w20 = 1 + 1 + 3 = 5, SUM 4; to 1: w01 w21 + w01 w20 + w02 w21 = 2 + 2 + 2 = 6,
        // SUM 4; to 2: w02 w12 + w01 w12 + w02 w10 = 6 + 6 + 2 = 14, SUM 2
        dueFraction("chance(0)", x.chance(0, 0), x.chance(0, 1), 5, 18);
        dueFraction("chance(1)", x.chance(1, 0), x.chance(1, 1), 1, 3);
        dueFraction("chance(2)", x.chance(2, 0), x.chance(2, 1), 7, 18);
    }

    private static void mean() {
        laid("19 mean", "n2;j0,1,1,1;s0,3;a1,1;", 2);
        dueMean(0, 1, 3);
        dueMean(1, 1, 3);
        dueMean(2, 1, 3);
        dueMean(3, 53, 30);
        due("set(1, 1, 0)", x.set(1, 1, 0), 1);
        dueMean(0, 0, 1);
        dueMean(1, 1, 3);
        dueMean(2, 0, 1);
        dueMean(3, 1, 5);
        due("law(1, 4)", x.law(1, 4), 0);
        dueMean(2, 1, 12);
        due("law(2, 7)", x.law(2, 7), 14);
        dueMean(2, 1, 7);
        due("law(2, 1)", x.law(2, 1), 27);
        dueMean(2, 1, 1);
        due("law(3, 2)", x.law(3, 2), 21);
        dueMean(2, NONE, NONE);
        dueMean(1, 1, 3);
        for (int part : new int[] {LOW, -1, 2, HIGH})
            for (int what = -1; what < 5; what++) due("mean(" + what + ", " + part + ")", x.mean(what, part), BAD);
        for (int what : new int[] {LOW, -1, 4, HIGH}) due("mean(" + what + ", 0)", x.mean(what, 0), BAD);
        laid("19 mean, no prices", "n2;j0,1,1,1;a1,1;p2,0,0,0;", 2);
        dueMean(3, 0, 1);
        laid("19 mean, EXPENSE whatever LAW", "n2;j0,1,1,1;s0,3;a1,1;l3,1;", 2);
        dueMean(0, 1, 3);
        dueMean(3, 53, 30);
        laid("19 mean, no moves spared by STAY 0", "n2;j0,1,1,1;s0,0;s1,0;", 2);
        dueMean(1, 1, 1);
    }

    private static void meanAtItsMost() {
        StringBuilder s = new StringBuilder("n6;");
        for (int a = 0; a < 6; a++) for (int b = a + 1; b < 6; b++) s.append("j" + a + "," + b + ",4,4;");
        for (int a = 0; a < 6; a++) s.append("s" + a + ",9;");
        laid("19 mean of the most", s + "p4,99,99,99;", 6);
        for (int c = 0; c < 6; c++) dueFraction("chance(" + c + ")", x.chance(c, 0), x.chance(c, 1), 1, 6);
        dueMean(1, 20, 29);
        // 9801 / 100 times 6
        dueMean(3, 29403, 50);
        for (int c = 0; c < 6; c++) x.set(c, 1, c);
        dueMean(0, 20, 29);
        // 99 * 20 / 29 + 9801 / 100
        dueMean(3, 198000 + 29 * 9801, 2900);
    }

    private static void bestAndLeast() {
        laid("20 best, 21 least: together", "n2;j0,1,1,1;s0,3;a1,4;", 2);
        dueBest(0, 0);
        dueFraction("least", x.least(0), x.least(1), 1, 5);
        for (int c : new int[] {LOW, -1, 2, 6, HIGH}) due("best(" + c + ")", x.best(c), BAD);
        for (int part : new int[] {LOW, -1, 2, HIGH}) due("least(" + part + ")", x.least(part), BAD);
        dueAreas(0, 4);
        due("count(8)", x.count(8), 0);
        laid("20 best, 21 least: apart", "n2;j0,1,1,1;s0,3;p2,99,1,99;", 2);
        dueBest(0, 1);
        dueFraction("least", x.least(0), x.least(1), 29503, 300);
        due("give()", x.give(), 1);
        dueMean(3, 29503, 300);
        laid("21 least, asked first", "n2;j0,1,1,1;s0,3;p2,99,1,99;", 2);
        dueFraction("least", x.least(0), x.least(1), 29503, 300);
        due("set(0, 0, 1)", x.set(0, 0, 1), 3);
        dueFraction("least", x.least(0), x.least(1), 9851, 100);
        due("undo()", x.undo(), 0);
        dueFraction("least", x.least(0), x.least(1), 29503, 300);
        // two pairs that move much, between them little: C Q by 100 is 4, U 20
        laid("20 best, pairs", "n4;j0,2,4,4;j1,3,4,4;j0,1,1,1;p2,20,20,20;", 4);
        dueBest(0, 1, 0, 1);
        // SUMS 6, 6, 5, 5 of 22, CROSSES 2 of 22: 40 / 22 + 8
        dueFraction("least", x.least(0), x.least(1), 108, 11);
        due("give()", x.give(), 2);
        dueAreas(0, 1, 0, 1);
        dueMean(3, 108, 11);
        laid("20 best, each alone", "n6;j0,1,1,1;j1,2,1,1;j2,3,1,1;j3,4,1,1;j4,5,1,1;p2,99,0,99;", 6);
        dueBest(0, 1, 2, 3, 4, 5);
        dueFraction("least", x.least(0), x.least(1), 9801, 100);
        due("give()", x.give(), 5);
        dueAreas(0, 1, 2, 3, 4, 5);
        laid("20 best, paging for nothing", "n6;j0,1,1,1;j1,2,1,1;j2,3,1,1;j3,4,1,1;j4,5,1,1;p2,0,9,99;", 6);
        dueBest(0, 0, 0, 0, 0, 0);
        dueFraction("least", x.least(0), x.least(1), 0, 1);
    }

    private static void bestTies() {
        laid("20 best, all for nothing", "n3;j0,1,1,1;j1,2,1,1;a1,1;p2,0,0,0;", 3);
        dueBest(0, 0, 0);
        dueFraction("least", x.least(0), x.least(1), 0, 1);
        // apart is U / 3 and 1, together 2: alike by U of 3
        laid("20 best, alike", "n2;j0,1,1,1;s0,3;a1,1;p2,10,3,10;", 2);
        dueBest(0, 0);
        dueFraction("least", x.least(0), x.least(1), 2, 1);
        laid("20 best, less", "n2;j0,1,1,1;s0,3;p2,10,2,10;", 2);
        dueBest(0, 1);
        dueFraction("least", x.least(0), x.least(1), 5, 3);
        laid("20 best, more", "n2;j0,1,1,1;s0,3;p2,10,4,10;", 2);
        dueBest(0, 0);
        // STAY told anew: MOVES ON 1 / 2, then 1 / 6 of 3 by STAYS of 5
        laid("20 best, by STAY told anew", "n2;j0,1,1,1;p2,10,3,10;", 2);
        dueBest(0, 0);
        due("set(0, 0, 5)", x.set(0, 0, 5), 1);
        due("set(1, 0, 5)", x.set(1, 0, 5), 1);
        dueBest(0, 1);
        dueFraction("least", x.least(0), x.least(1), 3, 2);
        due("undo()", x.undo(), 1);
        due("undo()", x.undo(), 0);
        dueBest(0, 0);
        dueFraction("least", x.least(0), x.least(1), 2, 1);
        // on a line of three alike the pair 0 1 is as good as 1 2: 0 0 1 is ahead of 0 1 1
        laid("20 best, of two pairs the first", "n3;j0,1,1,1;j1,2,1,1;s0,2;s2,2;p2,10,5,10;", 3);
        dueBest(0, 0, 1);
    }

    private static void walk() {
        // draws by z of 0: 1, 41487, 10299: all odd, so with SUM 2 it moves each time
        laid("22 walk", "n2;j0,1,1,1;", 2);
        due("walk(0, 1, 0)", x.walk(0, 1, 0), 1);
        due("walk(0, 2, 0)", x.walk(0, 2, 0), 0);
        due("walk(0, 3, 0)", x.walk(0, 3, 0), 1);
        due("walk(0, 3, 2)", x.walk(0, 3, 2), 3);
        due("walk(0, 3, 1)", x.walk(0, 3, 1), 0);
        // z of 1: 22803, 54100; z of 9999: 51303
        due("walk(1, 1, 0)", x.walk(1, 1, 0), 1);
        due("walk(1, 2, 0)", x.walk(1, 2, 0), 1);
        due("walk(1, 2, 2)", x.walk(1, 2, 2), 1);
        due("walk(9999, 1, 2)", x.walk(9999, 1, 2), 1);
        int[][] bad = {{-1, 1, 0}, {10000, 1, 0}, {LOW, 1, 0}, {HIGH, 1, 0}, {0, 0, 0}, {0, 61, 0}, {0, -1, 0}, {0, LOW, 0}, {0, HIGH, 0},
            {0, 1, -1}, {0, 1, 3}, {0, 1, LOW}, {0, 1, HIGH}};
        for (int[] b : bad) due("walk(" + b[0] + ", " + b[1] + ", " + b[2] + ")", x.walk(b[0], b[1], b[2]), BAD);
        dueHandset(0, 0, 0, 0, 0, 0, 0);
        due("count(8)", x.count(8), 0);
        // draw 1 of SUM 4 at 1: STAY 0, WEIGHTS 1 to 0, 1 to 2, 2 to 3: below 2, so 2
        laid("22 walk, the lowest first", "n4;j1,3,2,1;j1,0,1,1;j2,1,1,1;s1,0;", 4);
        ticks(1);
        due("walk(0, 1, 0)", x.walk(0, 1, 0), 2);
        dueHandset(1, 0, 1, 1, 0, 0, 0);
        due("set(1, 0, 1)", x.set(1, 0, 1), 0);
        due("walk(0, 1, 0)", x.walk(0, 1, 0), 0);
        due("set(1, 0, 2)", x.set(1, 0, 2), 1);
        due("walk(0, 1, 0)", x.walk(0, 1, 0), 1);
        due("walk(0, 1, 2)", x.walk(0, 1, 2), 0);
    }

    private static void walkByLaws() {
        laid("22 walk by MOVES", "n2;j0,1,1,1;l1,2;", 2);
        due("walk(0, 3, 1)", x.walk(0, 3, 1), 1);
        due("walk(0, 1, 1)", x.walk(0, 1, 1), 0);
        ticks(1);
        // one move is behind it: at 1 the draws are odd, so it moves 0, 1, 0
        due("walk(0, 1, 1)", x.walk(0, 1, 1), 1);
        due("walk(0, 3, 1)", x.walk(0, 3, 1), 2);
        due("walk(0, 3, 2)", x.walk(0, 3, 2), 3);
        laid("22 walk by TIME", "n2;j0,1,1,1;l2,7;", 2);
        due("walk(5, 60, 1)", x.walk(5, 60, 1), 8);
        due("walk(5, 6, 1)", x.walk(5, 6, 1), 0);
        due("walk(5, 7, 1)", x.walk(5, 7, 1), 1);
        ticks(0, 0, 0);
        due("walk(5, 60, 1)", x.walk(5, 60, 1), 9);
        dueHandset(0, 0, 0, 3, 0, 0, 0);
        laid("22 walk by CROSSING", "n2;j0,1,1,1;a1,1;", 2);
        due("walk(0, 3, 1)", x.walk(0, 3, 1), 3);
        due("walk(77, 60, 1)", x.walk(77, 60, 1), x.walk(77, 60, 2));
        laid("22 walk by FAR", "n2;j0,1,1,1;l3,1;", 2);
        due("walk(0, 3, 1)", x.walk(0, 3, 1), 3);
        due("law(3, 2)", x.law(3, 2), 31);
        due("walk(0, 60, 1)", x.walk(0, 60, 1), 0);
        due("tick(1)", x.tick(1), 0);
        dueHandset(1, 0, 1, 1, 0, 0, 0);
    }

    private static void count() {
        begin("23 count");
        for (int what : new int[] {LOW, -1, 10, HIGH}) due("count(" + what + ")", x.count(what), BAD);
        laid("23 count", "n3;j0,1,1,1;j1,2,1,1;j2,0,1,1;l2,8;p3,4,5,6;", 3);
        int[] want = {3, 3, 2, 8, 3, 4, 5, 6, 0, 44};
        for (int what = 0; what < want.length; what++) due("count(" + what + ")", x.count(what), want[what]);
        x.write(';');
        ticks(0, 0);
        due("count(8)", x.count(8), 2);
        due("count(9)", x.count(9), 45);
        due("law(1, 3)", x.law(1, 3), 28);
        due("count(2)", x.count(2), 1);
        due("count(3)", x.count(3), 3);
        due("count(8)", x.count(8), 3);
    }
}
