import java.util.ArrayList;
import java.util.List;
import java.util.Random;

/** Runs of calls by draws, each answer held against that of the slow model. */
public final class ModelTest {
    private static final int RUNS = 600, CALLS = 512;
    private static final int[] FAR_OUT = {Integer.MIN_VALUE, -7, -2, -1, 6, 7, 10, 61, 200, 10000, Integer.MAX_VALUE};

    private final Random random;
    private final RingPages real = new RingPages();
    private final Model model = new Model();
    private final List<String> calls = new ArrayList<>();
    private int wrong;

    private ModelTest(long seed) {
        random = new Random(seed);
    }

    public static void main(String[] args) {
        int runs = args.length > 0 ? Integer.parseInt(args[0]) : RUNS;
        int wrong = 0;
        for (int seed = 0; seed < runs && wrong == 0; seed++) {
            ModelTest test = new ModelTest(seed);
            if (seed % 10 == 9) test.runQuietly();
            else test.run();
            wrong += test.wrong;
            if (test.wrong != 0) System.out.println("seed " + seed + ", last calls: "
                + test.calls.subList(Math.max(0, test.calls.size() - 40), test.calls.size()));
        }
        System.out.println(wrong == 0 ? runs + " runs by draws are as the model" : wrong + " answers are not as the model");
        if (wrong != 0) System.exit(1);
    }

    private void run() {
        if (random.nextInt(5) != 0) layDrawn();
        while (calls.size() < CALLS && wrong == 0) step();
    }

    /** Seldom REGISTERED, so that many TICKS go by since. */
    private void runQuietly() {
        layDrawn();
        int kind = 2 * below(2), v = kind == 0 ? 0 : 9;
        if (below(3) == 0) {
            kind = below(2) == 0 ? 1 : 3;
            v = 1 + below(9);
        }
        due("law(" + kind + ", " + v + ")", real.law(kind, v), model.law(kind, v));
        if (below(2) == 0) for (int c = 0; c < 6; c++) due("set(" + c + ", 1, 0)", real.set(c, 1, 0), model.set(c, 1, 0));
        while (calls.size() < CALLS && wrong == 0) {
            for (int i = below(8); i >= 0; i--) tickQuietly();
            due("where()", real.where(), model.where());
        }
    }

    private void tickQuietly() {
        int c = below(3) == 0 ? below(6) : model.handset(0);
        due("tick(" + c + ")", real.tick(c), model.tick(c));
    }

    private void due(String call, long got, long want) {
        calls.add(call + " = " + got);
        if (got != want) {
            wrong++;
            System.out.println(call + " answered " + got + ", due is " + want);
        }
    }

    private int below(int n) {
        return random.nextInt(n);
    }

    /** A number from 0 to most, seldom one far out. */
    private int some(int most) {
        return below(25) == 0 ? FAR_OUT[below(FAR_OUT.length)] : below(most + 1);
    }

    private void step() {
        int way = below(100);
        if (way < 38) tick();
        else if (way < 42) page();
        else if (way < 46) set();
        else if (way < 49) law();
        else if (way < 51) due("give()", real.give(), model.give());
        else if (way < 57) due("undo()", real.undo(), model.undo());
        else if (way < 93) look();
        else if (way < 94) layDrawn();
        else if (way < 95) due("lay()", real.lay(), model.lay());
        else if (way < 96) due("wipe()", real.wipe(), model.wipe());
        else if (way < 98) due("fault()", real.fault(), model.fault());
        else write(some(126));
        if (below(12) == 0) lookAtAll();
    }

    private void tick() {
        int c = some(5);
        due("tick(" + c + ")", real.tick(c), model.tick(c));
    }

    private void page() {
        due("page()", real.page(), model.page());
    }

    private void set() {
        int c = some(5), what = some(1), v = below(3) == 0 ? 0 : some(9);
        due("set(" + c + ", " + what + ", " + v + ")", real.set(c, what, v), model.set(c, what, v));
    }

    private void law() {
        int kind = some(3), v = kind == 0 ? some(1) : some(9);
        due("law(" + kind + ", " + v + ")", real.law(kind, v), model.law(kind, v));
    }

    private void write(int letter) {
        due("write(" + letter + ")", real.write(letter), model.write(letter));
    }

    private void look() {
        int a = some(5), b = some(5), part = some(1), what = some(3), k = some(4) - 1;
        switch (below(14)) {
            case 0: due("cell(" + a + ", " + b + ")", real.cell(a, b), model.cell(a, b)); break;
            case 1: due("weight(" + a + ", " + b + ")", real.weight(a, b), model.weight(a, b)); break;
            case 2: due("wide(" + a + ", " + b + ")", real.wide(a, b), model.wide(a, b)); break;
            case 3: case 4: due("where()", real.where(), model.where()); break;
            case 5: case 6: due("round(" + k + ")", real.round(k), model.round(k)); break;
            case 7: due("chance(" + a + ", " + part + ")", real.chance(a, part), model.chance(a, part)); break;
            case 8: due("mean(" + what + ", " + part + ")", real.mean(what, part), model.mean(what, part)); break;
            case 9: due("best(" + a + ")", real.best(a), model.best(a)); break;
            case 10: due("least(" + part + ")", real.least(part), model.least(part)); break;
            case 11: count(some(9)); break;
            case 12: handset(some(6)); break;
            default: walk(); break;
        }
    }

    private void count(int what) {
        due("count(" + what + ")", real.count(what), model.count(what));
    }

    private void handset(int what) {
        due("handset(" + what + ")", real.handset(what), model.handset(what));
    }

    private void walk() {
        int z = some(9999), n = below(30) == 0 ? 61 : some(60), what = some(2);
        due("walk(" + z + ", " + n + ", " + what + ")", real.walk(z, n, what), model.walk(z, n, what));
    }

    private void lookAtAll() {
        for (int what = 0; what < 7; what++) handset(what);
        due("where()", real.where(), model.where());
        for (int k = -1; k < 4; k++) due("round(" + k + ")", real.round(k), model.round(k));
        count(2);
        count(3);
        count(8);
        for (int c = 0; c < 6; c++) {
            due("cell(" + c + ", 0)", real.cell(c, 0), model.cell(c, 0));
            due("cell(" + c + ", 1)", real.cell(c, 1), model.cell(c, 1));
        }
    }

    private void layDrawn() {
        due("wipe()", real.wipe(), model.wipe());
        String text = below(4) == 0 ? spoilt(drawn()) : drawn();
        for (int i = 0; i < text.length(); i++) write(text.charAt(i));
        due("fault()", real.fault(), model.fault());
        due("lay()", real.lay(), model.lay());
        for (int what = 0; what < 10; what++) count(what);
    }

    private String spoilt(String text) {
        StringBuilder s = new StringBuilder(text);
        int at = below(s.length());
        char letter = "njsalp0123456789,; x".charAt(below(20));
        switch (below(4)) {
            case 0: s.insert(at, letter); break;
            case 1: s.deleteCharAt(at); break;
            case 2: s.setLength(at); break;
            default: s.setCharAt(at, letter); break;
        }
        return s.toString();
    }

    /** Mostly hanging together: a tree of JOINS, then more of them. */
    private String drawn() {
        StringBuilder s = new StringBuilder();
        int n = 2 + below(5), alike = below(3);
        boolean[][] joined = new boolean[n][n];
        s.append("n").append(n).append(";");
        for (int c = 1; c < n; c++) if (below(60) != 0) join(s, joined, c, below(c), alike);
        int more = below(n * (n - 1) / 2 + 1);
        for (int i = 0; i < more; i++) {
            int a = below(n), b = below(n);
            if (a != b && !joined[a][b]) join(s, joined, a, b, alike);
        }
        int none = below(3);
        for (int c = 0; c < n; c++) {
            if (below(2) == 0) item(s, "s", c, none == 0 ? 0 : below(10));
            if (below(2) == 0) item(s, "a", c, below(below(6) + 1));
        }
        if (below(2) == 0) {
            int kind = below(4);
            item(s, "l", kind, kind == 0 ? 0 : 1 + below(9));
        }
        if (below(3) != 0) item(s, "p", 1 + below(4), below(100), below(4) == 0 ? 0 : below(100), below(100));
        return s.length() > 200 ? s.substring(0, 200) : s.toString();
    }

    private void join(StringBuilder s, boolean[][] joined, int a, int b, int alike) {
        joined[a][b] = joined[b][a] = true;
        item(s, "j", a, b, alike == 0 ? 1 : 1 + below(4), alike == 0 ? 1 : 1 + below(4));
    }

    private void item(StringBuilder s, String letter, int... numbers) {
        s.append(letter);
        for (int i = 0; i < numbers.length; i++) {
            if (i > 0) s.append(",");
            if (numbers[i] < 10 && below(40) == 0) s.append("0");
            s.append(numbers[i]);
        }
        s.append(";");
    }
}
