import java.util.ArrayDeque;
import java.util.ArrayList;
import java.util.Deque;
import java.util.List;

/**
 * The document once more, in its own words and with the Java library: lists that are copied, and
 * changes that are never altered. ModelTest holds the program against it.
 */
final class PlainModel {
    static final int INVALID = -1;
    static final int NOT_POSSIBLE = -2;
    static final int LIMIT = -3;
    static final int NOT_FOUND = -4;

    record Change(int kind, int place, int letter, int editor) {
        Change at(int newPlace) {
            return new Change(kind, newPlace, letter, editor);
        }

        Change by(Change b) {
            if (b.kind == 0 || kind == 0) {
                return this;
            }
            int p = place;
            int q = b.place;
            if (kind == 1 && b.kind == 1) {
                return q < p || (q == p && b.editor < editor) ? at(p + 1) : this;
            }
            if (kind == 1) {
                return q < p ? at(p - 1) : this;
            }
            if (b.kind == 1) {
                return q <= p ? at(p + 1) : this;
            }
            if (q == p) {
                return new Change(0, 0, 0, editor);
            }
            return q < p ? at(p - 1) : this;
        }
    }

    record Letter(int letter, int editor) { }

    static void doIn(List<Letter> text, Change c) {
        if (c.kind() == 1) {
            text.add(c.place(), new Letter(c.letter(), c.editor()));
        } else if (c.kind() == 2) {
            text.remove(c.place());
        }
    }

    static List<Integer> lettersOf(List<Letter> text) {
        List<Integer> letters = new ArrayList<>();
        for (Letter l : text) {
            letters.add(l.letter());
        }
        return letters;
    }

    static final class Editor {
        int number;
        List<Letter> copy = new ArrayList<>();
        List<Change> row = new ArrayList<>();
        List<Change> backs = new ArrayList<>();
        boolean underWay;
        int heard;
        int mark;
        int written;

        Editor(int number) {
            this.number = number;
        }

        Editor twin() {
            Editor e = new Editor(number);
            e.copy.addAll(copy);
            e.row.addAll(row);
            e.backs.addAll(backs);
            e.underWay = underWay;
            e.heard = heard;
            e.mark = mark;
            e.written = written;
            return e;
        }

        void doInCopy(Change c) {
            doIn(copy, c);
            if (c.kind() == 1 && c.place() <= mark) {
                mark++;
            }
            if (c.kind() == 2 && c.place() < mark) {
                mark--;
            }
            backs.replaceAll(b -> b.by(c));
        }

        void write(Change c) {
            doInCopy(c);
            row.add(c);
            written++;
        }

        void writeWithOpposite(Change c, Change opposite) {
            write(c);
            backs.add(opposite);
            if (backs.size() == 7) {
                backs.remove(0);
            }
        }
    }

    static final class State {
        List<Editor> editors = new ArrayList<>();
        List<Change> log = new ArrayList<>();

        State() {
            for (int i = 0; i < 3; i++) {
                editors.add(new Editor(i));
            }
        }

        State twin() {
            State s = new State();
            s.log.addAll(log);
            for (int i = 0; i < 3; i++) {
                s.editors.set(i, editors.get(i).twin());
            }
            return s;
        }

        List<Letter> text() {
            List<Letter> text = new ArrayList<>();
            for (Change c : log) {
                doIn(text, c);
            }
            return text;
        }

        Change asSent(Editor e) {
            Change c = e.row.get(0);
            for (Change b : log.subList(e.heard, log.size())) {
                c = c.by(b);
            }
            return c;
        }

        void sendFirst(Editor e) {
            log.add(asSent(e));
            e.underWay = true;
        }

        int hearNext(Editor e) {
            Change x = log.get(e.heard++);
            if (x.editor() == e.number) {
                e.row.remove(0);
                e.underWay = false;
                return 0;
            }
            for (int i = 0; i < e.row.size(); i++) {
                Change w = e.row.get(i);
                e.row.set(i, w.by(x));
                x = x.by(w);
            }
            e.doInCopy(x);
            return x.kind();
        }

        State inTheEnd(int order) {
            State s = twin();
            for (int i = 0; i < 3; i++) {
                Editor e = s.editors.get(order == 0 ? i : 2 - i);
                while (!e.row.isEmpty() || e.heard < s.log.size()) {
                    if (!e.row.isEmpty() && !e.underWay) {
                        s.sendFirst(e);
                    }
                    while (e.heard < s.log.size()) {
                        s.hearNext(e);
                    }
                }
            }
            for (Editor e : s.editors) {
                while (e.heard < s.log.size()) {
                    s.hearNext(e);
                }
            }
            return s;
        }

        boolean allSame() {
            List<Integer> text = lettersOf(text());
            for (Editor e : editors) {
                if (!lettersOf(e.copy).equals(text)) {
                    return false;
                }
            }
            return true;
        }

        int insert(int editor, int place, int letter) {
            if (bad(editor) || place < 0 || place > editors.get(editor).copy.size() || letter < 0
                    || letter > 25) {
                return INVALID;
            }
            Editor e = editors.get(editor);
            if (e.copy.size() >= 30 || e.row.size() == 6) {
                return LIMIT;
            }
            e.writeWithOpposite(new Change(1, place, letter, editor),
                    new Change(2, place, 0, editor));
            return e.copy.size();
        }

        int delete(int editor, int place) {
            if (bad(editor) || place < 0 || place >= editors.get(editor).copy.size()) {
                return INVALID;
            }
            Editor e = editors.get(editor);
            if (e.row.size() == 6) {
                return LIMIT;
            }
            int letter = e.copy.get(place).letter();
            e.writeWithOpposite(new Change(2, place, 0, editor),
                    new Change(1, place, letter, editor));
            return letter;
        }

        int takeBack(int editor) {
            if (bad(editor)) {
                return INVALID;
            }
            Editor e = editors.get(editor);
            if (e.backs.isEmpty()) {
                return NOT_POSSIBLE;
            }
            Change c = e.backs.get(e.backs.size() - 1);
            if (e.row.size() == 6 || (c.kind() == 1 && e.copy.size() >= 30)) {
                return LIMIT;
            }
            e.backs.remove(e.backs.size() - 1);
            if (c.kind() != 0) {
                e.write(c);
            }
            return c.kind();
        }

        int mark(int editor, int place) {
            if (bad(editor) || place < 0 || place > editors.get(editor).copy.size()) {
                return INVALID;
            }
            int was = editors.get(editor).mark;
            editors.get(editor).mark = place;
            return was;
        }

        int send(int editor) {
            if (bad(editor)) {
                return INVALID;
            }
            Editor e = editors.get(editor);
            if (e.row.isEmpty() || e.underWay) {
                return NOT_POSSIBLE;
            }
            if (log.size() == 60) {
                return LIMIT;
            }
            sendFirst(e);
            return log.size();
        }

        int hear(int editor) {
            if (bad(editor)) {
                return INVALID;
            }
            Editor e = editors.get(editor);
            return e.heard == log.size() ? NOT_POSSIBLE : hearNext(e);
        }

        int hearAll(int editor) {
            if (bad(editor)) {
                return INVALID;
            }
            Editor e = editors.get(editor);
            if (e.heard == log.size()) {
                return NOT_POSSIBLE;
            }
            int heard = 0;
            while (e.heard < log.size()) {
                hearNext(e);
                heard++;
            }
            return heard;
        }
    }

    private State now = new State();
    private final Deque<State> history = new ArrayDeque<>();
    private String text = "";

    static boolean bad(int editor) {
        return editor < 0 || editor > 2;
    }

    private void record(State before) {
        history.addLast(before);
        if (history.size() == 5) {
            history.removeFirst();
        }
    }

    private int recordIf(State before, int answer) {
        if (answer >= 0) {
            record(before);
        }
        return answer;
    }

    int insert(int editor, int place, int letter) {
        State before = now.twin();
        return recordIf(before, now.insert(editor, place, letter));
    }

    int delete(int editor, int place) {
        State before = now.twin();
        return recordIf(before, now.delete(editor, place));
    }

    int takeBack(int editor) {
        State before = now.twin();
        return recordIf(before, now.takeBack(editor));
    }

    int mark(int editor, int place) {
        State before = now.twin();
        return recordIf(before, now.mark(editor, place));
    }

    int send(int editor) {
        State before = now.twin();
        return recordIf(before, now.send(editor));
    }

    int hear(int editor) {
        State before = now.twin();
        return recordIf(before, now.hear(editor));
    }

    int hearAll(int editor) {
        State before = now.twin();
        return recordIf(before, now.hearAll(editor));
    }

    int clear() {
        record(now);
        int had = now.log.size();
        now = new State();
        return had;
    }

    int letter(int whose, int place) {
        if (whose < 0 || whose > 3 || place < 0) {
            return INVALID;
        }
        List<Letter> t = whose == 3 ? now.text() : now.editors.get(whose).copy;
        return place < t.size() ? t.get(place).letter() : NOT_FOUND;
    }

    int editorOf(int editor, int what) {
        if (bad(editor) || what < 0 || what > 8) {
            return INVALID;
        }
        Editor e = now.editors.get(editor);
        boolean same = lettersOf(e.copy).equals(lettersOf(now.text()));
        return new int[] {e.copy.size(), e.row.size(), e.underWay ? 1 : 0, e.heard,
            now.log.size() - e.heard, e.mark, e.backs.size(), same ? 1 : 0, e.written}[what];
    }

    private static int partOf(List<Change> row, int index, int what) {
        if (index >= row.size()) {
            return NOT_FOUND;
        }
        Change c = row.get(index);
        if ((what == 1 && c.kind() == 0) || (what == 2 && c.kind() != 1)) {
            return NOT_FOUND;
        }
        return new int[] {c.kind(), c.place(), c.letter(), c.editor()}[what];
    }

    int waitingOf(int editor, int index, int what) {
        if (bad(editor) || index < 0 || what < 0 || what > 2) {
            return INVALID;
        }
        return partOf(now.editors.get(editor).row, index, what);
    }

    int logOf(int index, int what) {
        return index < 0 || what < 0 || what > 3 ? INVALID : partOf(now.log, index, what);
    }

    int by(int place) {
        if (place < 0) {
            return INVALID;
        }
        List<Letter> t = now.text();
        return place < t.size() ? t.get(place).editor() : NOT_FOUND;
    }

    int count(int what) {
        switch (what) {
            case 0:
                return now.log.size();
            case 1:
                return now.text().size();
            case 2:
                return (int) now.log.stream().filter(c -> c.kind() == 0).count();
            case 3:
                return now.editors.stream().mapToInt(e -> e.row.size()).sum();
            case 4:
                return (int) now.editors.stream()
                        .filter(e -> e.heard == now.log.size() && e.row.isEmpty()).count();
            case 5:
                return history.size();
            case 6:
                return text.length();
            default:
                return INVALID;
        }
    }

    int inTheEnd(int order, int place) {
        if (order < 0 || order > 1 || place < 0) {
            return INVALID;
        }
        List<Letter> t = now.inTheEnd(order).text();
        return place < t.size() ? t.get(place).letter() : NOT_FOUND;
    }

    int both(int what) {
        State a = now.inTheEnd(0);
        State b = now.inTheEnd(1);
        switch (what) {
            case 0:
                return a.text().size();
            case 1:
                return b.text().size();
            case 2:
                return lettersOf(a.text()).equals(lettersOf(b.text())) ? 1 : 0;
            case 3:
                return a.allSame() && b.allSame() ? 1 : 0;
            default:
                return INVALID;
        }
    }

    int wouldSend(int editor, int what) {
        if (bad(editor) || what < 0 || what > 1) {
            return INVALID;
        }
        Editor e = now.editors.get(editor);
        if (e.row.isEmpty() || e.underWay) {
            return NOT_POSSIBLE;
        }
        return partOf(List.of(now.asSent(e)), 0, what);
    }

    int undo() {
        if (history.isEmpty()) {
            return NOT_POSSIBLE;
        }
        now = history.removeLast();
        return history.size();
    }

    int type(int character) {
        if (character < 32 || character > 126) {
            return INVALID;
        }
        if (text.length() == 60) {
            return LIMIT;
        }
        text += (char) character;
        return text.length();
    }

    int clearText() {
        int had = text.length();
        text = "";
        return had;
    }

    /** What comes of the text: the state behind it, its commands, its fault. */
    record Run(State state, int commands, int position, int reason, int cause) { }

    private Run run() {
        State s = now.twin();
        int at = 0;
        int commands = 0;
        while (at < text.length()) {
            int end = text.indexOf(';', at);
            String command = end < 0 ? "" : text.substring(at, end);
            if (!command.matches("i\\d\\d?,\\d\\d?,\\d\\d?|d\\d\\d?,\\d\\d?|[shb]\\d\\d?")) {
                return new Run(s, commands, at, 1, 0);
            }
            String[] parts = command.substring(1).split(",");
            int[] n = new int[3];
            for (int i = 0; i < parts.length; i++) {
                n[i] = Integer.parseInt(parts[i]);
            }
            int answer = switch (command.charAt(0)) {
                case 'i' -> s.insert(n[0], n[1], n[2]);
                case 'd' -> s.delete(n[0], n[1]);
                case 's' -> s.send(n[0]);
                case 'h' -> s.hear(n[0]);
                default -> s.takeBack(n[0]);
            };
            if (answer < 0) {
                return new Run(s, commands, at, 2, answer);
            }
            commands++;
            at = end + 1;
        }
        return new Run(s, commands, at, 0, 0);
    }

    int fault(int what) {
        if (what < 0 || what > 2) {
            return INVALID;
        }
        Run run = run();
        if (run.reason() == 0 || (what == 2 && run.reason() == 1)) {
            return NOT_FOUND;
        }
        return new int[] {run.position(), run.reason(), run.cause()}[what];
    }

    int play() {
        Run run = run();
        if (run.reason() != 0) {
            return NOT_POSSIBLE;
        }
        record(now);
        now = run.state();
        return run.commands();
    }
}
