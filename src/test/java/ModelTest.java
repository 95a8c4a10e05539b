import java.util.ArrayList;
import java.util.Arrays;
import java.util.List;
import java.util.TreeMap;

/** Long runs of mixed calls: the program has to answer each of them as the plain model does. */
final class ModelTest {
    private static final int RUNS = 3000;
    private static final int MOST_FAILED = 20;
    private static final String[] NAMES = {"insert", "delete", "takeBack", "mark", "send", "hear",
        "hearAll", "clear", "letter", "editorOf", "waitingOf", "logOf", "by", "count", "inTheEnd",
        "both", "wouldSend", "undo", "type", "clearText", "fault", "play"};

    private final Checks checks;
    private final TreeMap<String, Integer> seen = new TreeMap<>();
    private long seed;
    private Texts program;
    private PlainModel model;
    // How this run leans: what it mostly does, so that every limit is met in some run.
    private int lean;
    private String planned = "";

    private ModelTest(Checks checks) {
        this.checks = checks;
    }

    static void run(Checks checks) {
        ModelTest test = new ModelTest(checks);
        for (int run = 0; run < RUNS && checks.failed() < MOST_FAILED; run++) {
            test.oneRun(run);
        }
        test.everythingWasSeen();
    }

    private int below(int bound) {
        seed = seed * 6364136223846793005L + 1442695040888963407L;
        return (int) Math.floorMod(seed >>> 33, (long) bound);
    }

    private void oneRun(int run) {
        seed = run * 7919L + 17;
        lean = run % 4;
        planned = "";
        program = new Texts();
        model = new PlainModel();
        // Short runs leave calls to ask for all there is then, long ones come to the limits.
        int calls = run % 8 < 4 ? below(Texts.MOST_CALLS - 100) : Texts.MOST_CALLS - below(100);
        for (int call = 0; call < calls && checks.failed() < MOST_FAILED; call++) {
            oneCall("run " + run + " call " + call);
        }
        allThatIsThere("run " + run + " behind " + calls + " calls");
    }

    private int editor() {
        return below(40) == 0 ? (below(2) == 0 ? -1 : 3) : below(3);
    }

    private int placeIn(int length) {
        int pick = below(20);
        return pick == 0 ? -1 : pick == 1 ? length + below(2) : pick < 8 ? 0 : below(length + 1);
    }

    private int pickedCall() {
        int pick = below(100);
        if (lean == 1) {
            // Writes, sends and hears in turn, and is seldom asked: long logs and long copies.
            return pick < 33 ? 0 : pick < 38 ? 1 : pick < 41 ? 2 : pick < 66 ? 4 : pick < 70 ? 5
                    : pick < 93 ? 6 : 8 + below(14);
        }
        if (lean == 2) {
            // Takes out much: changes that become nothing.
            return pick < 20 ? 0 : pick < 38 ? 1 : pick < 50 ? 2 : pick < 62 ? 4 : pick < 75 ? 5
                    : pick < 80 ? 6 : pick < 99 ? 8 + below(14) : 7;
        }
        if (lean == 3) {
            // Mostly texts of commands.
            return pick < 60 ? 18 : pick < 65 ? 20 : pick < 70 ? 21 : pick < 72 ? 19
                    : below(NAMES.length);
        }
        return pick < 80 ? below(7) : 7 + below(15);
    }

    private void oneCall(String where) {
        int call = pickedCall();
        if ((call == 7 || call == 19) && below(4) != 0) {
            call = 0;
        }
        int[] a = argumentsOf(call);
        int got = asked(true, call, a);
        int want = asked(false, call, a);
        String name = NAMES[call] + "(" + a[0] + ", " + a[1] + ", " + a[2] + ")";
        checks.due(where + ": " + name, got, want);
        seen.merge(NAMES[call] + (want < 0 ? want : ""), 1, Integer::sum);
        if (call == 20 && a[0] == 2 && want < 0) {
            seen.merge("cause" + want, 1, Integer::sum);
        }
        if (call == 15 && a[0] == 2) {
            seen.merge("same " + want, 1, Integer::sum);
        }
        if (call == 5 || call == 2) {
            seen.merge(NAMES[call] + " kind " + want, 1, Integer::sum);
        }
        if (model.count(1) > 32) {
            seen.merge("long text", 1, Integer::sum);
        }
        if (model.count(0) == 60 && model.both(0) > 35) {
            seen.merge("full log and a long end", 1, Integer::sum);
        }
    }

    private int[] argumentsOf(int call) {
        int editor = editor();
        int length = Math.max(model.editorOf(editor, 0), 0);
        switch (call) {
            case 0:
                return new int[] {editor, placeIn(length), below(30) == 0 ? 26 - below(2) * 27
                        : below(26)};
            case 1:
                return new int[] {editor, placeIn(Math.max(length - 1, 0)), 0};
            case 3:
                return new int[] {editor, placeIn(length), 0};
            case 8:
                return new int[] {below(6) - 1, below(66) - 1, 0};
            case 9:
                return new int[] {editor, below(11) - 1, 0};
            case 10:
                return new int[] {editor, below(8) - 1, below(5) - 1};
            case 11:
                return new int[] {below(63) - 1, below(6) - 1, 0};
            case 12:
                return new int[] {below(40) - 1, 0, 0};
            case 13:
                return new int[] {below(9) - 1, 0, 0};
            case 14:
                return new int[] {below(4) - 1, below(50) - 1, 0};
            case 15:
                return new int[] {below(6) - 1, 0, 0};
            case 16:
                return new int[] {editor, below(4) - 1, 0};
            case 18:
                return new int[] {nextCharacter(), 0, 0};
            case 20:
                return new int[] {below(5) - 1, 0, 0};
            default:
                return new int[] {editor, 0, 0};
        }
    }

    private String number(int n) {
        return n < 10 && below(6) == 0 ? "0" + n : "" + n;
    }

    private int nextCharacter() {
        if (below(60) == 0) {
            return 30 + below(99);
        }
        if (planned.isEmpty()) {
            int editor = below(30) == 0 ? 3 : below(3);
            int length = Math.max(model.editorOf(editor, 0), 0);
            String e = number(editor);
            switch (below(7)) {
                case 0:
                case 1:
                case 2:
                    planned = "i" + e + "," + number(below(length + 1)) + ","
                            + number(below(26)) + ";";
                    break;
                case 3:
                    planned = "d" + e + "," + number(below(length + 1)) + ";";
                    break;
                default:
                    planned = "" + "sshhb".charAt(below(5)) + e + ";";
            }
        }
        int first = planned.charAt(0);
        planned = planned.substring(1);
        return first;
    }

    private int asked(boolean ofProgram, int call, int[] a) {
        Texts p = program;
        PlainModel m = model;
        switch (call) {
            case 0:
                return ofProgram ? p.insert(a[0], a[1], a[2]) : m.insert(a[0], a[1], a[2]);
            case 1:
                return ofProgram ? p.delete(a[0], a[1]) : m.delete(a[0], a[1]);
            case 2:
                return ofProgram ? p.takeBack(a[0]) : m.takeBack(a[0]);
            case 3:
                return ofProgram ? p.mark(a[0], a[1]) : m.mark(a[0], a[1]);
            case 4:
                return ofProgram ? p.send(a[0]) : m.send(a[0]);
            case 5:
                return ofProgram ? p.hear(a[0]) : m.hear(a[0]);
            case 6:
                return ofProgram ? p.hearAll(a[0]) : m.hearAll(a[0]);
            case 7:
                return ofProgram ? p.clear() : m.clear();
            case 8:
                return ofProgram ? p.letter(a[0], a[1]) : m.letter(a[0], a[1]);
            case 9:
                return ofProgram ? p.editorOf(a[0], a[1]) : m.editorOf(a[0], a[1]);
            case 10:
                return ofProgram ? p.waitingOf(a[0], a[1], a[2]) : m.waitingOf(a[0], a[1], a[2]);
            case 11:
                return ofProgram ? p.logOf(a[0], a[1]) : m.logOf(a[0], a[1]);
            case 12:
                return ofProgram ? p.by(a[0]) : m.by(a[0]);
            case 13:
                return ofProgram ? p.count(a[0]) : m.count(a[0]);
            case 14:
                return ofProgram ? p.inTheEnd(a[0], a[1]) : m.inTheEnd(a[0], a[1]);
            case 15:
                return ofProgram ? p.both(a[0]) : m.both(a[0]);
            case 16:
                return ofProgram ? p.wouldSend(a[0], a[1]) : m.wouldSend(a[0], a[1]);
            case 17:
                return ofProgram ? p.undo() : m.undo();
            case 18:
                return ofProgram ? p.type(a[0]) : m.type(a[0]);
            case 19:
                return ofProgram ? p.clearText() : m.clearText();
            case 20:
                return ofProgram ? p.fault(a[0]) : m.fault(a[0]);
            default:
                return ofProgram ? p.play() : m.play();
        }
    }

    /** Asks for what there is, in any order, as long as calls are left. */
    private void allThatIsThere(String where) {
        List<int[]> questions = questions();
        while (!questions.isEmpty() && program.calls() < Texts.MOST_CALLS
                && checks.failed() < MOST_FAILED) {
            int[] q = questions.remove(below(questions.size()));
            int[] a = {q[1], q[2], q[3]};
            checks.due(where + ": " + NAMES[q[0]] + Arrays.toString(a), asked(true, q[0], a),
                    asked(false, q[0], a));
        }
    }

    private List<int[]> questions() {
        List<int[]> all = new ArrayList<>();
        for (int what = 0; what <= 6; what++) {
            all.add(new int[] {13, what, 0, 0});
        }
        for (int what = 0; what <= 3; what++) {
            all.add(new int[] {20, what, 0, 0});
            all.add(new int[] {15, what, 0, 0});
        }
        for (int editor = 0; editor < 3; editor++) {
            for (int what = 0; what <= 8; what++) {
                all.add(new int[] {9, editor, what, 0});
            }
            for (int index = 0; index <= model.editorOf(editor, 1); index++) {
                for (int what = 0; what <= 2; what++) {
                    all.add(new int[] {10, editor, index, what});
                }
            }
            all.add(new int[] {16, editor, 0, 0});
            all.add(new int[] {16, editor, 1, 0});
        }
        for (int whose = 0; whose <= 3; whose++) {
            int length = whose == 3 ? model.count(1) : model.editorOf(whose, 0);
            for (int place = 0; place <= length; place++) {
                all.add(new int[] {8, whose, place, 0});
            }
        }
        for (int place = 0; place <= model.count(1); place++) {
            all.add(new int[] {12, place, 0, 0});
        }
        for (int index = Math.max(model.count(0) - 4, 0); index <= model.count(0); index++) {
            for (int what = 0; what <= 3; what++) {
                all.add(new int[] {11, index, what, 0});
            }
        }
        for (int order = 0; order <= 1; order++) {
            for (int place = 0; place <= model.both(order); place++) {
                all.add(new int[] {14, order, place, 0});
            }
        }
        return all;
    }

    /** The runs are worth something only if they come to the rare answers, too. */
    private void everythingWasSeen() {
        String[] wanted = {"insert", "insert-1", "insert-3", "delete", "delete-1", "delete-3",
            "takeBack-1", "takeBack-2", "takeBack-3", "takeBack kind 0", "takeBack kind 1",
            "takeBack kind 2", "mark", "mark-1", "send", "send-1", "send-2", "send-3", "hear-1",
            "hear-2", "hear kind 0", "hear kind 1", "hear kind 2", "hearAll", "hearAll-1",
            "hearAll-2", "clear", "letter", "letter-1", "letter-4", "waitingOf", "waitingOf-1",
            "waitingOf-4", "logOf", "logOf-1", "logOf-4", "by", "by-1", "by-4", "count",
            "count-1", "inTheEnd", "inTheEnd-1", "inTheEnd-4", "both", "both-1", "same 0",
            "same 1", "wouldSend", "wouldSend-1", "wouldSend-2", "wouldSend-4", "undo", "undo-2",
            "type", "type-1", "type-3", "clearText", "fault", "fault-1", "fault-4", "cause-1",
            "cause-2", "cause-3", "cause-4", "play", "play-2", "long text",
            "full log and a long end"};
        for (String name : wanted) {
            checks.holds("the runs came to " + name, seen.containsKey(name));
        }
        if (System.getProperty("seen") != null) {
            System.out.println(seen);
        }
    }
}
