import java.util.ArrayList;
import java.util.Arrays;
import java.util.List;

/** What the tests of the boundary cases share: each is of some words of the document. */
abstract class Edge {
    static final int BAD = -1, NO = -2, FULL = -3, NONE = -4;
    static final int TERMS = Doc.TERMS;
    static final String PAIR = "n2;j0,1,1,1;";
    static final String RING = "n3;j0,1,1,1;j1,2,1,1;j2,0,1,1;";
    static final String LINE = "n6;j0,1,1,1;j1,2,1,1;j2,3,1,1;j3,4,1,1;j4,5,1,1;";
    /** All six CELLS JOINED to one another. */
    static final String ALL = "n6;j0,1,1,1;j0,2,1,1;j0,3,1,1;j0,4,1,1;j0,5,1,1;j1,2,1,1;j1,3,1,1;j1,4,1,1;j1,5,1,1;"
        + "j2,3,1,1;j2,4,1,1;j2,5,1,1;j3,4,1,1;j3,5,1,1;j4,5,1,1;";

    interface Call {
        long on(RingPages x);
    }

    interface Maker {
        RingPages make();
    }

    private static final Doc DOC = new Doc();
    private static String told = "";
    private static int tests, asked, wrong;

    /** A test of its own for these words of a promise (or of the Terms, 0). */
    static void edge(int promise, String words, Runnable test) {
        told = (promise == TERMS ? "Terms" : "promise " + promise) + " '" + words + "'";
        tests++;
        if (!DOC.name(promise, words)) fault("these words do not stand in the document, or have a test");
        test.run();
    }

    /** Ends the program: with 1 if an answer was wrong, or words of the document have no test. */
    static void end() {
        told = "";
        for (String words : DOC.untested()) fault("no test of " + words);
        System.out.println(wrong == 0 ? tests + " tests of the document's words, " + asked + " answers: all as due" : wrong + " faults");
        if (wrong != 0) System.exit(1);
    }

    private static void fault(String what) {
        wrong++;
        System.out.println(told + ": " + what);
    }

    static void due(String call, long got, long want) {
        asked++;
        if (got != want) fault(call + " answered " + got + ", due is " + want);
    }

    static void must(String what, boolean so) {
        asked++;
        if (!so) fault("not so: " + what);
    }

    static RingPages write(RingPages x, String text) {
        for (int i = 0; i < text.length(); i++) x.write(text.charAt(i));
        return x;
    }

    static int faultOf(String text) {
        return write(new RingPages(), text).fault();
    }

    static int layOf(String text) {
        return write(new RingPages(), text).lay();
    }

    static void dueFault(int want, String... texts) {
        for (String text : texts) due("fault of " + text, faultOf(text), want);
    }

    /** A new object in which the TEXT is LAID, behind ticks to these CELLS. */
    static RingPages laid(String text, int... cells) {
        RingPages x = write(new RingPages(), text);
        must(text + " can be LAID", x.lay() >= 2);
        ticks(x, cells);
        return x;
    }

    static void ticks(RingPages x, int... cells) {
        for (int c : cells) must("tick(" + c + ") goes", x.tick(c) >= 0);
    }

    /** Ticks in which no UPDATE is due. */
    static void quiet(RingPages x, int... cells) {
        for (int c : cells) due("tick(" + c + ")", x.tick(c), 0);
    }

    static void dueHandset(RingPages x, int... want) {
        for (int what = 0; what < want.length; what++) due("handset(" + what + ")", x.handset(what), want[what]);
    }

    static void dueAreas(RingPages x, int... want) {
        for (int c = 0; c < want.length; c++) due("cell(" + c + ", 1)", x.cell(c, 1), want[c]);
    }

    static void dueBest(RingPages x, int... want) {
        for (int c = 0; c < want.length; c++) due("best(" + c + ")", x.best(c), want[c]);
    }

    static void dueRounds(RingPages x, int... want) {
        due("round(-1)", x.round(-1), want.length);
        for (int k = 0; k < want.length; k++) due("round(" + k + ")", x.round(k), want[k]);
        due("round(" + want.length + ")", x.round(want.length), NONE);
    }

    static void dueChance(RingPages x, int c, long above, long below) {
        due("chance(" + c + ", 0)", x.chance(c, 0), above);
        due("chance(" + c + ", 1)", x.chance(c, 1), below);
    }

    static void dueMean(RingPages x, int what, long above, long below) {
        due("mean(" + what + ", 0)", x.mean(what, 0), above);
        due("mean(" + what + ", 1)", x.mean(what, 1), below);
    }

    static void dueLeast(RingPages x, long above, long below) {
        due("least(0)", x.least(0), above);
        due("least(1)", x.least(1), below);
    }

    /** Numbers outside of low to high: next to them, those that wrap round into them, and the ends of int. */
    static int[] outside(int low, int high) {
        int[] some = {Integer.MIN_VALUE, Integer.MIN_VALUE + 1, low + Integer.MIN_VALUE, -65536, low - 65536, low - 256, -256, -100, -32, -7, -6, -5, -4, -3,
            -2, -1, low - 2, low - 1, high + 1, high + 2, 32, 33, low + 32, 64, 99, 100, low + 128, 255, 256, low + 256, high + 256, 65536, low + 65536,
            1 << 24, 1 << 30, Integer.MAX_VALUE - 1, Integer.MAX_VALUE};
        return Arrays.stream(some).filter(v -> v < low || v > high).distinct().toArray();
    }

    /** Many changes, some of them out of reach, an UPDATE, CELLS PAGED, moves and TICKS since, a TEXT with a FAULT. */
    static RingPages busy() {
        RingPages x = write(new RingPages(), "n3;s0");
        ticks(x, 1, 2, 3);
        x.page();
        x.set(0, 0, 7);
        x.set(5, 1, 3);
        x.law(1, 5);
        ticks(x, 4, 4, 5);
        return x;
    }

    static RingPages busyByFar() {
        RingPages x = busy();
        x.law(3, 3);
        ticks(x, 0, 0, 1);
        return x;
    }

    /** The call answers as is due, and nothing changes: all answers are those of a twin that was not called. */
    static void refused(Maker maker, String name, Call call, long want) {
        RingPages called = maker.make(), twin = maker.make();
        due(name, call.on(called), want);
        same(name, called, twin);
    }

    /** The two answer alike, now and as far as can be UNDONE; both are spent then. */
    static void same(String name, RingPages one, RingPages other) {
        asked++;
        List<String> some = history(one), others = history(other);
        for (int i = 0; i < some.size(); i++) {
            if (i >= others.size() || !some.get(i).equals(others.get(i))) {
                fault("behind " + name + ": " + some.get(i) + ", and in its twin: " + (i < others.size() ? others.get(i) : "nothing"));
                return;
            }
        }
    }

    private static List<String> history(RingPages x) {
        List<String> all = answers(x);
        for (int i = 0; i < 7; i++) {
            all.add("undo() = " + x.undo());
            for (int what = 0; what < 7; what++) all.add("then handset(" + what + ") = " + x.handset(what));
            for (int c = 0; c < 6; c++) all.add("then cell " + c + " = " + x.cell(c, 0) + " " + x.cell(c, 1));
            all.add("then LAW " + x.count(2) + " " + x.count(3) + ", chance(0) above " + x.chance(0, 0));
        }
        all.add("lay() = " + x.lay());
        return all;
    }

    /** All that can be asked for without a change (some 150 calls). */
    static List<String> answers(RingPages x) {
        List<String> all = new ArrayList<>();
        for (int what = 0; what < 10; what++) all.add("count(" + what + ") = " + x.count(what));
        for (int what = 0; what < 7; what++) all.add("handset(" + what + ") = " + x.handset(what));
        for (int a = 0; a < 6; a++) {
            for (int what = 0; what < 5; what++) all.add("cell(" + a + ", " + what + ") = " + x.cell(a, what));
            for (int b = 0; b < 6; b++) {
                if (a != b) all.add("weight(" + a + ", " + b + ") = " + x.weight(a, b));
                if (a < b) all.add("wide(" + a + ", " + b + ") = " + x.wide(a, b));
            }
            all.add("chance(" + a + ") = " + x.chance(a, 0) + " by " + x.chance(a, 1));
            all.add("best(" + a + ") = " + x.best(a));
        }
        for (int what = 0; what < 4; what++) all.add("mean(" + what + ") = " + x.mean(what, 0) + " by " + x.mean(what, 1));
        all.add("least = " + x.least(0) + " by " + x.least(1));
        all.add("where() = " + x.where());
        for (int k = -1; k < 4; k++) all.add("round(" + k + ") = " + x.round(k));
        for (int what = 0; what < 3; what++) all.add("walk(77, 60, " + what + ") = " + x.walk(77, 60, what));
        all.add("fault() = " + x.fault());
        return all;
    }
}
