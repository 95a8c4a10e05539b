/** What the tests of single sentences share: the object under test, and ways to bring it on. */
abstract class SentenceTests {
    static final int INVALID = -1;
    static final int NOT_POSSIBLE = -2;
    static final int LIMIT = -3;
    static final int NOT_FOUND = -4;
    static final int LEAST = Integer.MIN_VALUE;
    static final int MOST = Integer.MAX_VALUE;
    static final int[] NO_EDITORS = {-1, 3, 4, LEAST, MOST};

    Texts x = new Texts();
    private Checks checks;
    private String name;
    private int asked;

    void begin(Checks ofAll, String test) {
        checks = ofAll;
        name = test;
    }

    /** How many answers the test looked at. */
    int asked() {
        return asked;
    }

    void anew() {
        x = new Texts();
    }

    void due(String call, int got, int want) {
        asked++;
        checks.due(name + ": " + call, got, want);
    }

    void dueText(String which, String got, String want) {
        asked++;
        checks.holds(name + ": " + which + " is \"" + got + "\", due is \"" + want + "\"",
                got.equals(want));
    }

    /** The letters of a copy, or of the text of the log (3). */
    String textOf(int whose) {
        StringBuilder got = new StringBuilder();
        int letter = x.letter(whose, 0);
        for (int place = 1; letter >= 0 && place < 100; place++) {
            got.append((char) ('a' + letter));
            letter = x.letter(whose, place);
        }
        return got.toString();
    }

    void text(int whose, String want) {
        dueText(whose == 3 ? "the log's text" : "the copy of " + whose, textOf(whose), want);
    }

    String endOf(int order) {
        StringBuilder got = new StringBuilder();
        int letter = x.inTheEnd(order, 0);
        for (int place = 1; letter >= 0 && place < 100; place++) {
            got.append((char) ('a' + letter));
            letter = x.inTheEnd(order, place);
        }
        return got.toString();
    }

    void end(int order, String want) {
        dueText("the end by order " + order, endOf(order), want);
    }

    /** The kind, the place and the letter of a change that waits. */
    void waits(int editor, int index, int kind, int place, int letter) {
        String which = "change " + index + " of " + editor + ", its ";
        due(which + "kind", x.waitingOf(editor, index, 0), kind);
        due(which + "place", x.waitingOf(editor, index, 1), place);
        due(which + "letter", x.waitingOf(editor, index, 2), letter);
    }

    /** The kind, the place, the letter and the editor of a change of the log. */
    void inLog(int index, int kind, int place, int letter, int editor) {
        String which = "change " + index + " of the log, its ";
        due(which + "kind", x.logOf(index, 0), kind);
        due(which + "place", x.logOf(index, 1), place);
        due(which + "letter", x.logOf(index, 2), letter);
        due(which + "editor", x.logOf(index, 3), editor);
    }

    /** Puts letters in at the end of a copy, of which the length is told. */
    void write(int editor, int length, String letters) {
        for (int i = 0; i < letters.length(); i++) {
            x.insert(editor, length + i, letters.charAt(i) - 'a');
        }
    }

    /** As write, but each letter is sent and heard by its editor, so that none waits. */
    void publish(int editor, int length, String letters) {
        for (int i = 0; i < letters.length(); i++) {
            x.insert(editor, length + i, letters.charAt(i) - 'a');
            x.send(editor);
            x.hearAll(editor);
        }
    }

    /** A letter put in and taken out again, both sent and heard, until the log has so many. */
    void fillLog(int editor, int changes) {
        for (int i = 0; i < changes; i++) {
            if (i % 2 == 0) {
                x.insert(editor, 0, 0);
            } else {
                x.delete(editor, 0);
            }
            x.send(editor);
            x.hear(editor);
        }
    }

    /** Sends all that waits of an editor, and hears all. */
    void flush(int editor) {
        int waiting = x.editorOf(editor, 1);
        if (x.editorOf(editor, 2) == 1) {
            x.hearAll(editor);
            waiting--;
        }
        for (int i = 0; i < waiting; i++) {
            x.send(editor);
            x.hearAll(editor);
        }
    }

    void hearEverywhere() {
        for (int editor = 0; editor < 3; editor++) {
            x.hearAll(editor);
        }
    }

    /** A text that all editors have, put in by one of them. */
    void common(int editor, String letters) {
        publish(editor, 0, letters);
        hearEverywhere();
    }

    void typed(String commands) {
        x.clearText();
        for (int i = 0; i < commands.length(); i++) {
            x.type(commands.charAt(i));
        }
    }

    /** Position, reason and cause of the fault of a text. */
    void fault(String commands, int position, int reason, int cause) {
        typed(commands);
        due("position in \"" + commands + "\"", x.fault(0), position);
        due("reason in \"" + commands + "\"", x.fault(1), reason);
        due("cause in \"" + commands + "\"", x.fault(2), cause);
    }

    void noFault(String commands) {
        fault(commands, NOT_FOUND, NOT_FOUND, NOT_FOUND);
    }

    /** That a text, which stands alone, is not of the form. */
    void wrongForm(String commands) {
        fault(commands, 0, 1, NOT_FOUND);
    }

    /** All that can be asked of a state of a few changes; fewer than 200 calls for a small one. */
    String everything() {
        StringBuilder all = new StringBuilder();
        for (int what = 0; what <= 6; what++) {
            all.append(' ').append(x.count(what));
        }
        for (int editor = 0; editor < 3; editor++) {
            all.append(" / editor ").append(editor).append(':');
            for (int what = 0; what <= 8; what++) {
                all.append(' ').append(x.editorOf(editor, what));
            }
            all.append(' ').append(textOf(editor));
            int waiting = x.editorOf(editor, 1);
            for (int index = 0; index < waiting; index++) {
                all.append(" [").append(x.waitingOf(editor, index, 0)).append(' ')
                        .append(x.waitingOf(editor, index, 1)).append(' ')
                        .append(x.waitingOf(editor, index, 2)).append(']');
            }
        }
        all.append(" / log: ").append(textOf(3));
        int changes = x.count(0);
        for (int index = 0; index < changes; index++) {
            all.append(" [").append(x.logOf(index, 0)).append(' ').append(x.logOf(index, 1))
                    .append(' ').append(x.logOf(index, 2)).append(' ').append(x.logOf(index, 3))
                    .append(']');
        }
        int length = x.count(1);
        for (int place = 0; place < length; place++) {
            all.append(' ').append(x.by(place));
        }
        all.append(" / fault: ").append(x.fault(0)).append(' ').append(x.fault(1)).append(' ')
                .append(x.fault(2));
        return all.toString();
    }
}
