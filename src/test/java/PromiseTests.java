/** Each promise of the document with ordinary inputs, the edges it names, and wrong inputs. */
final class PromiseTests {
    private static final int INVALID = -1;
    private static final int NOT_POSSIBLE = -2;
    private static final int LIMIT = -3;
    private static final int NOT_FOUND = -4;
    private static final int[] WRONG_EDITORS = {-1, 3, 4, Integer.MIN_VALUE, Integer.MAX_VALUE};

    private final Checks checks;
    private int promise;
    private ReshapedTexts x;

    private PromiseTests(Checks checks) {
        this.checks = checks;
    }

    static void run(Checks checks) {
        PromiseTests t = new PromiseTests(checks);
        t.constants();
        t.newObject();
        t.insert();
        t.delete();
        t.takeBack();
        t.takeBackAtTheLimits();
        t.mark();
        t.send();
        t.sentAtTheSamePlace();
        t.hear();
        t.hearAll();
        t.clear();
        t.letter();
        t.editorOf();
        t.waitingOf();
        t.logOf();
        t.by();
        t.count();
        t.inTheEnd();
        t.both();
        t.wouldSend();
        t.undo();
        t.undoOfEachCall();
        t.type();
        t.clearText();
        t.fault();
        t.formsOfCommands();
        t.play();
    }

    private void begin(int number) {
        promise = number;
        x = new ReshapedTexts();
    }

    private void due(String call, int got, int want) {
        checks.due("promise " + promise + ": " + call, got, want);
    }

    /** The letters of a copy, or of the text of the log (3), as a text. */
    private void text(int whose, String want) {
        StringBuilder got = new StringBuilder();
        for (int place = 0; place < 100 && x.letter(whose, place) >= 0; place++) {
            got.append((char) ('a' + x.letter(whose, place)));
        }
        checks.holds("promise " + promise + ": text of " + whose + " is " + got + ", due is "
                + want, got.toString().equals(want));
    }

    private void end(int order, String want) {
        StringBuilder got = new StringBuilder();
        for (int place = 0; place < 100 && x.inTheEnd(order, place) >= 0; place++) {
            got.append((char) ('a' + x.inTheEnd(order, place)));
        }
        checks.holds("promise " + promise + ": the end by order " + order + " is " + got
                + ", due is " + want, got.toString().equals(want));
    }

    private void write(int editor, String letters) {
        for (int i = 0; i < letters.length(); i++) {
            x.insert(editor, x.editorOf(editor, 0), letters.charAt(i) - 'a');
        }
    }

    /** Writes at the end, sends and hears each letter, so that nothing waits behind it. */
    private void publish(int editor, String letters) {
        for (int i = 0; i < letters.length(); i++) {
            x.insert(editor, x.editorOf(editor, 0), letters.charAt(i) - 'a');
            x.send(editor);
            x.hearAll(editor);
        }
    }

    private void flush(int editor) {
        for (int i = 0; i < 7 && x.editorOf(editor, 1) > 0; i++) {
            x.send(editor);
            x.hearAll(editor);
        }
    }

    private void hearEverywhere() {
        for (int editor = 0; editor < 3; editor++) {
            x.hearAll(editor);
        }
    }

    private void typeText(String commands) {
        x.clearText();
        for (int i = 0; i < commands.length(); i++) {
            x.type(commands.charAt(i));
        }
    }

    private void constants() {
        begin(0);
        due("INVALID_ARGUMENT", ReshapedTexts.INVALID_ARGUMENT, -1);
        due("NOT_POSSIBLE", ReshapedTexts.NOT_POSSIBLE, -2);
        due("LIMIT_REACHED", ReshapedTexts.LIMIT_REACHED, -3);
        due("NOT_FOUND", ReshapedTexts.NOT_FOUND, -4);
    }

    private void newObject() {
        begin(1);
        for (int editor = 0; editor < 3; editor++) {
            for (int what = 0; what <= 8; what++) {
                due("new editorOf " + what, x.editorOf(editor, what), what == 7 ? 1 : 0);
            }
            text(editor, "");
        }
        text(3, "");
        for (int what = 0; what <= 6; what++) {
            due("new count " + what, x.count(what), what == 4 ? 3 : 0);
        }
        due("new undo", x.undo(), NOT_POSSIBLE);
        x.insert(0, 0, 1);
        ReshapedTexts other = new ReshapedTexts();
        due("another object has its own copies", other.editorOf(0, 0), 0);
    }

    private void insert() {
        begin(2);
        due("insert", x.insert(0, 0, 1), 1);
        due("insert at the end", x.insert(0, 1, 3), 2);
        due("insert between", x.insert(0, 1, 25), 3);
        due("insert at the beginning", x.insert(0, 0, 0), 4);
        text(0, "abzd");
        text(1, "");
        for (int editor : WRONG_EDITORS) {
            due("insert of no editor", x.insert(editor, 0, 0), INVALID);
        }
        due("place -1", x.insert(0, -1, 0), INVALID);
        due("place behind the end", x.insert(0, 5, 0), INVALID);
        due("letter -1", x.insert(0, 0, -1), INVALID);
        due("letter 26", x.insert(0, 0, 26), INVALID);
        text(0, "abzd");
        due("the fifth waits", x.insert(0, 4, 4), 5);
        due("the sixth waits", x.insert(0, 5, 5), 6);
        due("a seventh", x.insert(0, 6, 6), LIMIT);
        due("a seventh with a wrong letter", x.insert(0, 6, 26), INVALID);
        due("written", x.editorOf(0, 8), 6);
        begin(2);
        publish(1, "abcdefghijklmnopqrstuvwxyzabc");
        due("the 30th letter", x.insert(1, 29, 3), 30);
        due("the 31st letter", x.insert(1, 0, 3), LIMIT);
        due("place 31 of 30", x.insert(1, 31, 3), INVALID);
        x.insert(0, 0, 7);
        x.send(0);
        flush(1);
        due("heard beyond 30", x.editorOf(1, 0), 31);
        due("insert into 31", x.insert(1, 0, 3), LIMIT);
        due("another editor may", x.insert(2, 0, 3), 1);
    }

    private void delete() {
        begin(3);
        due("delete in an empty copy", x.delete(0, 0), INVALID);
        write(0, "abc");
        due("delete in the middle", x.delete(0, 1), 1);
        text(0, "ac");
        due("delete the last", x.delete(0, 1), 2);
        due("place at the length", x.delete(0, 1), INVALID);
        due("place -1", x.delete(0, -1), INVALID);
        for (int editor : WRONG_EDITORS) {
            due("delete of no editor", x.delete(editor, 0), INVALID);
        }
        due("delete the first, the sixth that waits", x.delete(0, 0), 0);
        text(0, "");
        due("written", x.editorOf(0, 8), 6);
        begin(3);
        write(2, "abcdef");
        due("a seventh that waits", x.delete(2, 0), LIMIT);
        due("a seventh at a wrong place", x.delete(2, 6), INVALID);
        text(2, "abcdef");
    }

    private void takeBack() {
        begin(4);
        due("nothing to take back", x.takeBack(0), NOT_POSSIBLE);
        for (int editor : WRONG_EDITORS) {
            due("takeBack of no editor", x.takeBack(editor), INVALID);
        }
        write(0, "ab");
        x.delete(0, 0);
        due("of a letter taken out", x.takeBack(0), 1);
        text(0, "ab");
        due("of the letter b", x.takeBack(0), 2);
        text(0, "a");
        due("left to take back", x.editorOf(0, 6), 1);
        due("written by it, too", x.editorOf(0, 8), 5);
        due("waits", x.waitingOf(0, 4, 0), 2);
        due("waits at", x.waitingOf(0, 4, 1), 1);
        due("of the letter a, which was taken out since", x.takeBack(0), 0);
        text(0, "a");
        due("nothing left", x.takeBack(0), NOT_POSSIBLE);

        begin(4);
        write(0, "a");
        flush(0);
        x.hearAll(1);
        x.insert(1, 0, 25);
        x.delete(1, 1);
        flush(1);
        x.hearAll(0);
        text(0, "z");
        due("what another took out became nothing", x.takeBack(0), 0);
        due("it is gone", x.editorOf(0, 6), 0);
        due("nothing was written", x.editorOf(0, 8), 1);
        due("nothing waits", x.editorOf(0, 1), 0);
        text(0, "z");

        begin(4);
        write(0, "b");
        flush(0);
        x.hearAll(1);
        x.insert(1, 0, 0);
        flush(1);
        x.hearAll(0);
        due("moved by one that was heard", x.takeBack(0), 2);
        text(0, "a");
        due("it is at place 1", x.waitingOf(0, 0, 1), 1);

        begin(4);
        write(0, "b");
        x.insert(0, 0, 0);
        due("the later one goes first", x.takeBack(0), 2);
        text(0, "b");
        due("the earlier one followed both", x.takeBack(0), 2);
        text(0, "");
        due("at its place", x.waitingOf(0, 3, 1), 0);

        begin(4);
        write(0, "a");
        x.delete(0, 0);
        x.insert(0, 0, 25);
        x.delete(0, 0);
        due("the z again", x.takeBack(0), 1);
        due("its own change is nothing", x.takeBack(0), 0);
        due("the a again", x.takeBack(0), 1);
        text(0, "az");

        begin(4);
        publish(0, "abcdefgh");
        due("six at most", x.editorOf(0, 6), 6);
        for (int i = 0; i < 6; i++) {
            due("one of six", x.takeBack(0), 2);
            flush(0);
        }
        text(0, "ab");
        due("the first ones were dropped", x.takeBack(0), NOT_POSSIBLE);
    }

    private void takeBackAtTheLimits() {
        begin(4);
        due("none, before the limit", x.takeBack(0), NOT_POSSIBLE);
        write(0, "abcdef");
        due("six wait", x.takeBack(0), LIMIT);
        due("and nothing is gone", x.editorOf(0, 6), 6);

        begin(4);
        publish(0, "a");
        x.delete(0, 0);
        x.takeBack(0);
        due("the letter a was put in by another change", x.editorOf(0, 6), 1);
        flush(0);
        for (int i = 0; i < 3; i++) {
            x.insert(0, 0, i);
            x.takeBack(0);
        }
        due("waiting", x.editorOf(0, 1), 6);
        due("six wait, also if it became nothing", x.takeBack(0), LIMIT);
        due("it is still there", x.editorOf(0, 6), 1);
        flush(0);
        due("none waits: it became nothing", x.takeBack(0), 0);

        begin(4);
        publish(1, "ab");
        x.hearAll(0);
        publish(0, "ccccccccccccccccccccccccccc");
        x.delete(0, 0);
        flush(0);
        due("28 letters", x.editorOf(0, 0), 28);
        write(2, "xy");
        flush(2);
        x.hearAll(0);
        due("30 letters by others", x.editorOf(0, 0), 30);
        due("it would be the 31st", x.takeBack(0), LIMIT);
        due("still there", x.editorOf(0, 6), 6);
        x.hearAll(1);
        x.delete(1, 29);
        flush(1);
        x.hearAll(0);
        due("29 letters are fewer", x.editorOf(0, 0), 29);
        due("the 30th may be put in", x.takeBack(0), 1);
        due("and taken out what was put in", x.takeBack(0), 2);
    }

    private void mark() {
        begin(5);
        due("mark of an empty copy", x.mark(0, 0), 0);
        due("mark behind its end", x.mark(0, 1), INVALID);
        write(0, "abcd");
        due("own letters push it", x.mark(0, 2), 4);
        due("where it was", x.mark(0, 4), 2);
        due("behind the end", x.mark(0, 5), INVALID);
        due("place -1", x.mark(0, -1), INVALID);
        for (int editor : WRONG_EDITORS) {
            due("mark of no editor", x.mark(editor, 0), INVALID);
        }
        x.mark(0, 2);
        x.insert(0, 2, 9);
        due("a letter at the mark", x.editorOf(0, 5), 3);
        x.insert(0, 4, 9);
        due("a letter behind the mark", x.editorOf(0, 5), 3);
        flush(0);
        x.delete(0, 3);
        due("taken out at the mark", x.editorOf(0, 5), 3);
        x.delete(0, 2);
        due("taken out below the mark", x.editorOf(0, 5), 2);
        x.takeBack(0);
        due("put in again at the mark", x.editorOf(0, 5), 3);
        flush(0);
        x.hearAll(1);
        x.mark(1, 5);
        x.insert(1, 0, 7);
        x.delete(1, 5);
        flush(1);
        x.hearAll(0);
        due("heard letters move it, too", x.editorOf(0, 5), 4);
        due("mark counts as recorded", x.count(5), 4);
    }

    private void send() {
        begin(6);
        due("nothing waits", x.send(0), NOT_POSSIBLE);
        for (int editor : WRONG_EDITORS) {
            due("send of no editor", x.send(editor), INVALID);
        }
        write(0, "ab");
        due("send", x.send(0), 1);
        due("one is under way", x.send(0), NOT_POSSIBLE);
        due("it stays in the row", x.editorOf(0, 1), 2);
        due("under way", x.editorOf(0, 2), 1);
        text(3, "a");
        x.hear(0);
        due("the second one", x.send(0), 2);
        text(3, "ab");

        begin(6);
        for (int i = 0; i < 30; i++) {
            publish(0, "a");
            x.delete(0, 0);
            flush(0);
        }
        due("sixty in the log", x.count(0), 60);
        due("none waits, before the limit", x.send(0), NOT_POSSIBLE);
        x.insert(0, 0, 3);
        due("a 61st", x.send(0), LIMIT);
        due("it is not under way", x.editorOf(0, 2), 0);
        due("the log", x.count(0), 60);

        begin(6);
        publish(0, "abc");
        x.hearAll(1);
        x.hearAll(2);
        x.delete(1, 1);
        x.delete(2, 1);
        x.send(1);
        due("both took the same out", x.send(2), 5);
        due("the later one is nothing in the log", x.logOf(4, 0), 0);
        due("but not in the row", x.waitingOf(2, 0, 0), 2);
        text(3, "ac");
    }

    private void sentAtTheSamePlace() {
        begin(6);
        for (int first = 0; first < 3; first++) {
            for (int second = 0; second < 3; second++) {
                if (first != second) {
                    x = new ReshapedTexts();
                    x.insert(first, 0, first);
                    x.insert(second, 0, second);
                    x.send(first);
                    x.send(second);
                    hearEverywhere();
                    String want = first < second ? "" + (char) ('a' + first) + (char) ('a' + second)
                            : "" + (char) ('a' + second) + (char) ('a' + first);
                    for (int whose = 0; whose <= 3; whose++) {
                        text(whose, want);
                    }
                }
            }
        }
        // One puts in, one takes out, at, below and behind each other, sent in both orders.
        for (int put = 0; put <= 3; put++) {
            for (int out = 0; out < 3; out++) {
                for (int first = 0; first < 2; first++) {
                    x = new ReshapedTexts();
                    publish(2, "abc");
                    x.hearAll(0);
                    x.hearAll(1);
                    x.insert(0, put, 25);
                    x.delete(1, out);
                    x.send(first);
                    x.send(1 - first);
                    due("place in the log", x.logOf(4, 1), first == 0
                            ? (put <= out ? out + 1 : out) : (out < put ? put - 1 : put));
                    hearEverywhere();
                    String want = new StringBuilder("abc".substring(0, put)).append('z')
                            .append("abc".substring(put)).toString()
                            .replace("abc".substring(out, out + 1), "");
                    for (int whose = 0; whose <= 3; whose++) {
                        text(whose, want);
                    }
                }
            }
        }
    }

    private void hear() {
        begin(7);
        due("nothing to hear", x.hear(0), NOT_POSSIBLE);
        for (int editor : WRONG_EDITORS) {
            due("hear of no editor", x.hear(editor), INVALID);
        }
        write(0, "ab");
        x.send(0);
        due("a letter is put in", x.hear(1), 1);
        text(1, "a");
        due("all is heard", x.hear(1), NOT_POSSIBLE);
        due("the own one", x.hear(0), 0);
        due("it is gone from the row", x.editorOf(0, 1), 1);
        due("nothing is under way", x.editorOf(0, 2), 0);
        due("the second one comes first", x.waitingOf(0, 0, 2), 1);
        text(0, "ab");
        x.delete(1, 0);
        x.send(1);
        due("a letter is taken out", x.hear(0), 2);
        text(0, "b");
        due("the one that waits moved", x.waitingOf(0, 0, 1), 0);

        begin(7);
        publish(0, "a");
        x.hearAll(1);
        x.delete(0, 0);
        x.send(0);
        x.delete(1, 0);
        due("it is taken out already", x.hear(1), 0);
        due("and the own one is nothing now", x.waitingOf(1, 0, 0), 0);
        due("a change that is nothing is sent", x.send(1), 3);
        due("kind in the log", x.logOf(2, 0), 0);
        due("the letter is heard", x.hear(2), 1);
        due("and that it is taken out", x.hear(2), 2);
        write(2, "xyz");
        x.delete(2, 1);
        x.mark(2, 2);
        due("nothing is heard", x.hear(2), 0);
        text(2, "xz");
        due("the mark stays", x.editorOf(2, 5), 2);
        due("what waits stays", x.waitingOf(2, 1, 1), 1);
        due("what waits stays", x.waitingOf(2, 3, 1), 1);
        due("what can be taken back stays", x.takeBack(2), 1);
        text(2, "xyz");
        flush(2);
        hearEverywhere();
        text(1, "xyz");

        begin(7);
        // The one that is heard passes two that wait, and each of them passes it.
        write(1, "xy");
        x.insert(0, 0, 0);
        x.send(0);
        due("heard", x.hear(1), 1);
        text(1, "axy");
        due("the first one that waits", x.waitingOf(1, 0, 1), 1);
        due("the second one that waits", x.waitingOf(1, 1, 1), 2);
        write(0, "b");
        flush(0);
        due("heard between the letters", x.hear(1), 1);
        text(1, "abxy");
        flush(1);
        x.hearAll(0);
        text(0, "abxy");
    }

    private void hearAll() {
        begin(8);
        due("nothing to hear", x.hearAll(0), NOT_POSSIBLE);
        for (int editor : WRONG_EDITORS) {
            due("hearAll of no editor", x.hearAll(editor), INVALID);
        }
        publish(0, "abc");
        due("three", x.hearAll(1), 3);
        text(1, "abc");
        due("all is heard", x.hearAll(1), NOT_POSSIBLE);
        x.insert(1, 0, 25);
        x.send(1);
        x.hear(2);
        due("the rest", x.hearAll(2), 3);
        text(2, "zabc");
        due("the own one counts", x.hearAll(1), 1);
        due("recorded as one", x.count(5), 4);
        x.undo();
        due("undone as one", x.editorOf(1, 4), 1);
    }

    private void clear() {
        begin(9);
        due("clear of a new one", x.clear(), 0);
        due("it is recorded", x.count(5), 1);
        publish(0, "abc");
        x.hear(1);
        write(1, "yz");
        x.send(1);
        x.hearAll(2);
        write(2, "w");
        x.type('i');
        due("clear", x.clear(), 4);
        for (int place = 0; place < 5; place++) {
            due("nobody put in", x.by(place), NOT_FOUND);
            due("nothing in the end", x.inTheEnd(0, place), NOT_FOUND);
        }
        for (int editor = 0; editor < 3; editor++) {
            for (int what = 0; what <= 8; what++) {
                due("cleared editorOf " + what, x.editorOf(editor, what), what == 7 ? 1 : 0);
            }
        }
        for (int what = 0; what <= 4; what++) {
            due("cleared count " + what, x.count(what), what == 4 ? 3 : 0);
        }
        due("the history stays", x.count(5), 4);
        due("the text of commands stays", x.count(6), 1);
        due("nothing can be taken back", x.takeBack(0), NOT_POSSIBLE);
        due("undo of clear", x.undo(), 3);
        text(0, "abc");
        text(1, "ayz");
        due("under way again", x.editorOf(1, 2), 1);
        due("editor 2 again", x.editorOf(2, 0), 5);
        for (int place = 0; place < 4; place++) {
            due("who put in again", x.by(place), x.letter(3, place) == 24 ? 1 : 0);
        }
        due("behind it", x.by(4), NOT_FOUND);
    }

    private void letter() {
        begin(10);
        publish(1, "abc");
        write(1, "d");
        x.hear(2);
        due("own copy", x.letter(1, 3), 3);
        due("behind it", x.letter(1, 4), NOT_FOUND);
        due("heard", x.letter(2, 0), 0);
        due("not heard", x.letter(2, 1), NOT_FOUND);
        due("text of the log", x.letter(3, 2), 2);
        due("not sent", x.letter(3, 3), NOT_FOUND);
        due("an empty copy", x.letter(0, 0), NOT_FOUND);
        due("far behind", x.letter(1, Integer.MAX_VALUE), NOT_FOUND);
        due("whose -1", x.letter(-1, 0), INVALID);
        due("whose 4", x.letter(4, 0), INVALID);
        due("place -1", x.letter(1, -1), INVALID);
        due("far ahead", x.letter(3, Integer.MIN_VALUE), INVALID);
    }

    private void editorOf() {
        begin(11);
        publish(0, "ab");
        x.hear(1);
        write(1, "xyz");
        x.send(1);
        x.mark(1, 2);
        int[] wants = {4, 3, 1, 1, 2, 2, 3, 0, 3};
        for (int what = 0; what < wants.length; what++) {
            due("editorOf " + what, x.editorOf(1, what), wants[what]);
        }
        due("what -1", x.editorOf(1, -1), INVALID);
        due("what 9", x.editorOf(1, 9), INVALID);
        for (int editor : WRONG_EDITORS) {
            due("of no editor", x.editorOf(editor, 0), INVALID);
        }
        due("not the same as the log", x.editorOf(0, 7), 0);
        x.hearAll(0);
        due("the same as the log", x.editorOf(0, 7), 1);

        begin(11);
        x.insert(0, 0, 5);
        x.insert(1, 0, 5);
        x.insert(2, 0, 6);
        x.send(0);
        due("the same letter, by whom ever", x.editorOf(1, 7), 1);
        due("another letter", x.editorOf(2, 7), 0);
    }

    private void waitingOf() {
        begin(12);
        due("none waits", x.waitingOf(0, 0, 0), NOT_FOUND);
        publish(0, "abc");
        x.hearAll(1);
        x.insert(1, 2, 7);
        x.delete(1, 0);
        due("kind of the first", x.waitingOf(1, 0, 0), 1);
        due("its place", x.waitingOf(1, 0, 1), 2);
        due("its letter", x.waitingOf(1, 0, 2), 7);
        due("kind of the second", x.waitingOf(1, 1, 0), 2);
        due("its place", x.waitingOf(1, 1, 1), 0);
        due("it puts nothing in", x.waitingOf(1, 1, 2), NOT_FOUND);
        due("no third", x.waitingOf(1, 2, 0), NOT_FOUND);
        due("far behind", x.waitingOf(1, Integer.MAX_VALUE, 0), NOT_FOUND);
        due("index -1", x.waitingOf(1, -1, 0), INVALID);
        due("what -1", x.waitingOf(1, 0, -1), INVALID);
        due("what 3", x.waitingOf(1, 0, 3), INVALID);
        for (int editor : WRONG_EDITORS) {
            due("of no editor", x.waitingOf(editor, 0, 0), INVALID);
        }
        x.delete(0, 0);
        x.send(0);
        x.hear(1);
        due("moved by what was heard", x.waitingOf(1, 0, 1), 1);
        due("became nothing", x.waitingOf(1, 1, 0), 0);
        due("no place", x.waitingOf(1, 1, 1), NOT_FOUND);
        due("no letter", x.waitingOf(1, 1, 2), NOT_FOUND);
    }

    private void logOf() {
        begin(13);
        due("an empty log", x.logOf(0, 0), NOT_FOUND);
        publish(0, "abc");
        x.hearAll(1);
        x.hearAll(2);
        x.delete(1, 1);
        x.delete(2, 1);
        x.send(1);
        x.send(2);
        int[][] wants = {{1, 2, 2, 0}, {2, 1, NOT_FOUND, 1}, {0, NOT_FOUND, NOT_FOUND, 2}};
        for (int i = 0; i < wants.length; i++) {
            for (int what = 0; what <= 3; what++) {
                due("logOf " + (i + 2) + " " + what, x.logOf(i + 2, what), wants[i][what]);
            }
        }
        due("no sixth", x.logOf(5, 3), NOT_FOUND);
        due("far behind", x.logOf(Integer.MAX_VALUE, 0), NOT_FOUND);
        due("index -1", x.logOf(-1, 0), INVALID);
        due("what -1", x.logOf(0, -1), INVALID);
        due("what 4", x.logOf(0, 4), INVALID);
        due("what 4 of none", x.logOf(9, 4), INVALID);
    }

    private void by() {
        begin(14);
        due("an empty text", x.by(0), NOT_FOUND);
        publish(1, "ab");
        x.hearAll(0);
        x.insert(0, 1, 5);
        flush(0);
        x.hearAll(2);
        x.insert(2, 0, 6);
        due("not sent", x.by(3), NOT_FOUND);
        flush(2);
        int[] wants = {2, 1, 0, 1, NOT_FOUND};
        for (int place = 0; place < wants.length; place++) {
            due("by " + place, x.by(place), wants[place]);
        }
        due("place -1", x.by(-1), INVALID);
        x.hearAll(0);
        x.delete(0, 1);
        flush(0);
        due("letters behind it come up", x.by(1), 0);
        x.takeBack(0);
        flush(0);
        due("put in again, by the one who took it back", x.by(1), 0);
        due("and the others go on", x.by(3), 1);
    }

    private void count() {
        begin(15);
        publish(0, "abc");
        x.hearAll(1);
        x.hearAll(2);
        x.delete(1, 1);
        x.delete(2, 1);
        x.insert(2, 0, 1);
        x.insert(2, 0, 1);
        x.send(1);
        x.send(2);
        x.hearAll(1);
        x.type('i');
        x.type('0');
        int[] wants = {5, 2, 1, 3, 1, 4, 2};
        for (int what = 0; what < wants.length; what++) {
            due("count " + what, x.count(what), wants[what]);
        }
        x.hearAll(0);
        due("two are ready", x.count(4), 2);
        x.hearAll(2);
        due("one still has what waits", x.count(4), 2);
        flush(2);
        due("the others have not heard", x.count(4), 1);
        hearEverywhere();
        due("all are ready", x.count(4), 3);
        due("what -1", x.count(-1), INVALID);
        due("what 7", x.count(7), INVALID);
        write(0, "a");
        write(1, "bc");
        write(2, "def");
        due("those of all editors wait", x.count(3), 6);
    }

    private void inTheEnd() {
        begin(16);
        due("nothing in the end", x.inTheEnd(0, 0), NOT_FOUND);
        x.insert(0, 0, 0);
        x.insert(1, 0, 1);
        x.insert(2, 0, 2);
        end(0, "abc");
        end(1, "abc");
        due("behind it", x.inTheEnd(0, 3), NOT_FOUND);
        due("order -1", x.inTheEnd(-1, 0), INVALID);
        due("order 2", x.inTheEnd(2, 0), INVALID);
        due("place -1", x.inTheEnd(0, -1), INVALID);
        due("nothing was sent by it", x.count(0), 0);
        due("nothing was heard by it", x.editorOf(0, 0), 1);
        due("nothing was recorded by it", x.count(5), 3);

        begin(16);
        // What waits behind one that is under way counts, too, and what nobody has heard.
        write(2, "ab");
        x.send(2);
        write(1, "c");
        x.send(1);
        end(0, "cab");
        end(1, "cab");

        begin(16);
        for (int i = 0; i < 27; i++) {
            publish(0, "a");
            x.delete(0, 0);
            flush(0);
        }
        publish(0, "aaaaaa");
        due("a full log", x.count(0), 60);
        write(0, "bbbbbb");
        write(1, "cccccc");
        write(2, "dddddd");
        end(0, "aaaaaabbbbbbccccccdddddd");
        end(1, "aaaaaabbbbbbccccccdddddd");
        due("and its length", x.both(0), 24);
    }

    private void both() {
        begin(17);
        due("length by order 0", x.both(0), 0);
        due("the same", x.both(2), 1);
        due("what -1", x.both(-1), INVALID);
        due("what 4", x.both(4), INVALID);
        // Two put in on both sides of a letter that the third takes out. Once it is out, both are
        // at the same place, and the lower number goes first.
        publish(1, "m");
        hearEverywhere();
        x.delete(0, 0);
        x.insert(1, 1, 0);
        x.insert(2, 0, 2);
        end(0, "ac");
        end(1, "ca");
        due("length by order 0", x.both(0), 2);
        due("length by order 1", x.both(1), 2);
        due("not the same", x.both(2), 0);
        due("but all copies are, by each order", x.both(3), 1);
        due("nothing was sent by it", x.count(0), 1);

        begin(17);
        publish(1, "m");
        hearEverywhere();
        x.insert(0, 1, 0);
        x.insert(1, 0, 2);
        x.delete(2, 0);
        end(0, "ca");
        end(1, "ac");
        due("not the same, the editor 2 being first", x.both(2), 0);

        begin(17);
        publish(1, "m");
        hearEverywhere();
        x.delete(1, 0);
        x.insert(2, 1, 0);
        x.insert(0, 0, 2);
        end(0, "ca");
        end(1, "ca");
        due("the same by both orders", x.both(2), 1);
    }

    private void wouldSend() {
        begin(18);
        due("none waits", x.wouldSend(0, 0), NOT_POSSIBLE);
        for (int editor : WRONG_EDITORS) {
            due("of no editor", x.wouldSend(editor, 0), INVALID);
        }
        due("what -1", x.wouldSend(0, -1), INVALID);
        due("what 2", x.wouldSend(0, 2), INVALID);
        publish(0, "ab");
        x.insert(1, 0, 9);
        due("kind", x.wouldSend(1, 0), 1);
        due("place behind those of a lower number", x.wouldSend(1, 1), 2);
        due("it does not move in the row", x.waitingOf(1, 0, 1), 0);
        due("it is not sent", x.count(0), 2);
        x.send(1);
        due("one is under way", x.wouldSend(1, 0), NOT_POSSIBLE);
        due("as it was told", x.logOf(2, 1), 2);
        x.hearAll(2);
        x.delete(2, 0);
        due("taken out", x.wouldSend(2, 0), 2);
        x.hearAll(0);
        x.delete(0, 0);
        flush(0);
        due("nothing", x.wouldSend(2, 0), 0);
        due("no place", x.wouldSend(2, 1), NOT_FOUND);

        begin(18);
        for (int i = 0; i < 30; i++) {
            publish(0, "a");
            x.delete(0, 0);
            flush(0);
        }
        x.insert(0, 0, 3);
        due("told of a full log, too", x.wouldSend(0, 0), 1);
    }

    private void undo() {
        begin(19);
        due("nothing to undo", x.undo(), NOT_POSSIBLE);
        for (int i = 0; i < 6; i++) {
            x.insert(0, i, i);
            due("states", x.count(5), Math.min(i + 1, 4));
        }
        for (int i = 0; i < 4; i++) {
            due("undo", x.undo(), 3 - i);
        }
        text(0, "ab");
        due("the older ones were dropped", x.undo(), NOT_POSSIBLE);
        x.insert(0, 9, 0);
        x.delete(0, 2);
        x.send(1);
        x.hear(0);
        x.hearAll(0);
        x.takeBack(1);
        x.mark(0, 7);
        x.letter(0, 0);
        x.type('x');
        x.play();
        due("faults and questions are not recorded", x.count(5), 0);
        x.insert(0, 2, 2);
        x.type('y');
        x.undo();
        due("the text of commands stays", x.count(6), 2);
        text(0, "ab");
        x.insert(0, 2, 3);
        text(0, "abd");
        due("anew behind undo", x.count(5), 1);

        begin(19);
        publish(0, "abcdef");
        x.undo();
        x.undo();
        flush(0);
        publish(0, "ghi");
        text(0, "abcdefghi");
        for (int round = 0; round < 3; round++) {
            x.mark(0, 1);
            x.mark(0, 2);
            x.mark(0, 3);
            x.mark(0, 4);
            x.undo();
            due("the third mark", x.editorOf(0, 5), 3);
            x.mark(0, 5);
            x.mark(0, 6);
            for (int want : new int[] {5, 3, 2, 1}) {
                x.undo();
                due("marks backwards", x.editorOf(0, 5), want);
            }
            due("no more", x.undo(), NOT_POSSIBLE);
        }
    }

    private void undoOfEachCall() {
        begin(19);
        publish(0, "abc");
        x.hear(1);
        write(1, "z");
        x.mark(1, 1);
        due("mark was", x.editorOf(1, 5), 1);
        x.mark(1, 0);
        x.undo();
        due("mark undone", x.editorOf(1, 5), 1);
        x.send(1);
        x.undo();
        due("send undone", x.count(0), 3);
        due("not under way", x.editorOf(1, 2), 0);
        text(3, "abc");
        x.insert(0, 0, 25);
        x.send(0);
        due("by whom", x.by(3), 0);
        x.undo();
        due("by nobody", x.by(3), NOT_FOUND);
        x.undo();
        x.hear(1);
        x.undo();
        due("hear undone", x.editorOf(1, 3), 1);
        text(1, "az");
        x.takeBack(1);
        x.undo();
        due("takeBack undone", x.editorOf(1, 6), 1);
        text(1, "az");
        due("written undone", x.editorOf(1, 8), 1);
        x.delete(1, 0);
        x.undo();
        text(1, "az");
        due("what waits undone", x.editorOf(1, 1), 1);
        due("two are left of four", x.count(5), 2);
    }

    private void type() {
        begin(20);
        due("the first", x.type(32), 1);
        due("the second", x.type(126), 2);
        due("31", x.type(31), INVALID);
        due("127", x.type(127), INVALID);
        due("-1", x.type(-1), INVALID);
        for (int i = 3; i <= 60; i++) {
            due("type", x.type('0'), i);
        }
        due("a 61st", x.type('0'), LIMIT);
        due("a wrong 61st", x.type(31), INVALID);
        due("length", x.count(6), 60);
        due("it is not recorded", x.count(5), 0);
    }

    private void clearText() {
        begin(21);
        due("of an empty one", x.clearText(), 0);
        x.type('s');
        x.type('0');
        due("clearText", x.clearText(), 2);
        due("it is empty", x.count(6), 0);
        due("no fault", x.fault(0), NOT_FOUND);
        due("it is not recorded", x.count(5), 0);
        due("begins anew", x.type('s'), 1);
    }

    private void faultOf(String commands, int position, int reason, int cause) {
        typeText(commands);
        due("position in \"" + commands + "\"", x.fault(0), position);
        due("reason in \"" + commands + "\"", x.fault(1), reason);
        due("cause in \"" + commands + "\"", x.fault(2), cause);
    }

    private void fault() {
        begin(22);
        due("what -1", x.fault(-1), INVALID);
        due("what 3", x.fault(3), INVALID);
        faultOf("", NOT_FOUND, NOT_FOUND, NOT_FOUND);
        faultOf("i0,0,0;s0;h0;b0;", NOT_FOUND, NOT_FOUND, NOT_FOUND);
        faultOf("i0,0,0;d0,0;", NOT_FOUND, NOT_FOUND, NOT_FOUND);
        faultOf("i0,0,0;d0,1;", 7, 2, INVALID);
        faultOf("s0;", 0, 2, NOT_POSSIBLE);
        faultOf("h2;x", 0, 2, NOT_POSSIBLE);
        faultOf("b1;", 0, 2, NOT_POSSIBLE);
        faultOf("i3,0,0;", 0, 2, INVALID);
        faultOf("i0,0,26;", 0, 2, INVALID);
        faultOf("s99;", 0, 2, INVALID);
        faultOf("i0,0,0;i0,0,0;i0,0,0;i0,0,0;i0,0,0;i0,0,0;i0,0,0;x", 42, 2, LIMIT);
        faultOf("i1,0,7;i1,0,7", 7, 1, NOT_FOUND);
        faultOf("i1,0,7;s1;s1;?", 10, 2, NOT_POSSIBLE);
        due("nothing was done", x.editorOf(0, 0) + x.editorOf(1, 0) + x.count(0), 0);
        due("nothing was recorded", x.count(5), 0);
        x.insert(1, 0, 7);
        x.send(1);
        faultOf("h0;d0,0;s0;h1;h1;h1;", 17, 2, NOT_POSSIBLE);
        x.insert(1, 0, 7);
        faultOf("d1,1;d1,1;", 5, 2, INVALID);
    }

    private void formsOfCommands() {
        begin(22);
        String[] wrong = {";", " i0,0,0;", "i0,0,0 ;", "i0,0;", "i0,0,0,0;", "i;", "i0,,0;",
            "i,0,0;", "i0,0,;", "i000,0,0;", "i0,0,000;", "i0,000,0;", "i0.0.0;", "i0;0;0;",
            "I0,0,0;", "a0;", "m0,0;", "M0,0;", "A0;", "c;", "d0;", "d0,0,0;", "d0,0", "d;", "s;",
            "s", "s0", "s0,", "s0,0;", "s000;", "h;", "h0,0;", "b;", "b0,0;", "s-1;", "s+1;", "0;",
            "s0 ;", "s 0;", "s/;", "s:;", "s0/;", "s0:;", "~0;", "i0,0,0:", "i0,0,0,"};
        for (String commands : wrong) {
            faultOf(commands, 0, 1, NOT_FOUND);
            due("play of \"" + commands + "\"", x.play(), NOT_POSSIBLE);
        }
        faultOf("i00,00,05;i0,01,25;s00;h00;d0,01;b00;", NOT_FOUND, NOT_FOUND, NOT_FOUND);
        faultOf("i0,0,9;s0;;", 10, 1, NOT_FOUND);
        faultOf("i0,0,9;s0; ", 10, 1, NOT_FOUND);
        publish(2, "abcdefghijk");
        faultOf("d2,10;d2,10;", 6, 2, INVALID);
        faultOf("i2,11,25;i2,12,10;s2;h2;", NOT_FOUND, NOT_FOUND, NOT_FOUND);
    }

    private void play() {
        begin(23);
        due("play of an empty text", x.play(), 0);
        due("it is recorded", x.count(5), 1);
        typeText("i0,0,7;i0,1,8;s0;h1;");
        due("play", x.play(), 4);
        text(0, "hi");
        text(1, "h");
        due("recorded as one", x.count(5), 2);
        due("the text stays", x.count(6), 20);
        due("again, but one is under way", x.play(), NOT_POSSIBLE);
        text(0, "hi");
        due("undo of all", x.undo(), 1);
        text(0, "");
        due("undo of the empty one", x.undo(), 0);
        due("play again", x.play(), 4);
        typeText("i2,0,3;d2,0;b2;x");
        due("play with a fault", x.play(), NOT_POSSIBLE);
        text(2, "");
        typeText("i2,0,3;d2,0;b2;");
        due("play of the three others", x.play(), 3);
        text(2, "d");
        due("each was written", x.editorOf(2, 8), 3);
        typeText("h1;h1;");
        due("h hears one alone", x.play(), NOT_POSSIBLE);
        typeText("h0;s0;h1;h2;h2;");
        due("to the end", x.play(), 5);
        text(2, "hid");
        typeText("s0;s1;s2;h0;h1;h2;b0;b1;b2;s0;s1;s2;h0;h1;h2;b0;b1;b2;b0;b1;");
        due("full, of twenty commands", x.count(6), 60);
        due("the first one's cause", x.fault(2), NOT_POSSIBLE);

        begin(23);
        publish(0, "abc");
        x.mark(0, 1);
        typeText("d0,0;i0,0,25;s0;");
        due("play behind other calls", x.play(), 3);
        text(0, "zbc");
        due("one is under way", x.editorOf(0, 2), 1);
        due("the oldest state was dropped", x.count(5), 4);
        due("undo of the play alone", x.undo(), 3);
        text(0, "abc");
        due("the mark is as before", x.editorOf(0, 5), 1);
        due("none is under way", x.editorOf(0, 2), 0);
        due("the log is as before", x.count(0), 3);
    }
}
