/**
 * Editors of one text: each writes into an own copy at once, sends what was written to a log, and
 * hears what others wrote. Changes are reshaped by those that came ahead of them, so that all who
 * heard the same have the same text.
 *
 * <p>All rows are made with the object and used again, so that no call makes an object.
 */
public final class ReshapedTexts {
    public static final int INVALID_ARGUMENT = -1;
    public static final int NOT_POSSIBLE = -2;
    public static final int LIMIT_REACHED = -3;
    public static final int NOT_FOUND = -4;

    private static final int EDITORS = 3;
    private static final int LETTERS = 26;
    private static final int COPY_MOST = 30;
    private static final int WAITING_MOST = 6;
    private static final int BACKS_MOST = 6;
    private static final int LOG_MOST = 60;
    private static final int HISTORY_MOST = 4;
    private static final int COMMAND_TEXT_MOST = 60;
    private static final int FIRST_CHARACTER = 32;
    private static final int LAST_CHARACTER = 126;

    // In the end the log takes all that waits, too, and each change puts in one letter at most.
    private static final int END_MOST = LOG_MOST + EDITORS * WAITING_MOST;

    // Instead of an editor: the text of the log.
    private static final int OF_THE_LOG = 3;

    private static final int NOTHING = 0;
    private static final int PUT_IN = 1;
    private static final int TAKE_OUT = 2;

    private static final int WRITE_IN = 'i';
    private static final int WRITE_OUT = 'd';
    private static final int SEND = 's';
    private static final int HEAR = 'h';
    private static final int TAKE_BACK = 'b';
    // These two are calls alone: no command of the text has such a letter.
    private static final int HEAR_ALL = 'A';
    private static final int SET_MARK = 'M';

    private static final int WRONG_FORM = 1;
    private static final int WRONG_CALL = 2;

    private final State now;
    private final State trial;
    private final State upwards;
    private final State downwards;
    private final History past;
    private final Commands commands;

    public ReshapedTexts() {
        now = new State();
        trial = new State();
        upwards = new State();
        downwards = new State();
        past = new History();
        commands = new Commands();
    }

    // ---- writing

    public int insert(int editor, int place, int letter) {
        return recorded(WRITE_IN, editor, place, letter);
    }

    public int delete(int editor, int place) {
        return recorded(WRITE_OUT, editor, place, 0);
    }

    public int takeBack(int editor) {
        return recorded(TAKE_BACK, editor, 0, 0);
    }

    public int mark(int editor, int place) {
        return recorded(SET_MARK, editor, place, 0);
    }

    // ---- sending, hearing

    public int send(int editor) {
        return recorded(SEND, editor, 0, 0);
    }

    public int hear(int editor) {
        return recorded(HEAR, editor, 0, 0);
    }

    public int hearAll(int editor) {
        return recorded(HEAR_ALL, editor, 0, 0);
    }

    public int clear() {
        int had = now.log.size();
        past.prepare(now);
        past.keep();
        now.begin();
        return had;
    }

    // ---- what there is

    public int letter(int whose, int place) {
        if ((isNoEditor(whose) && whose != OF_THE_LOG) || place < 0) {
            return INVALID_ARGUMENT;
        }
        Numbers text = whose == OF_THE_LOG ? now.text : now.editor(whose).copy;
        return place < text.size() ? text.at(place) : NOT_FOUND;
    }

    public int editorOf(int editor, int what) {
        if (isNoEditor(editor)) {
            return INVALID_ARGUMENT;
        }
        Editor asked = now.editor(editor);
        switch (what) {
            case 0:
                return asked.copy.size();
            case 1:
                return asked.waiting.size();
            case 2:
                return asked.underWay ? 1 : 0;
            case 3:
                return asked.heard;
            case 4:
                return now.log.size() - asked.heard;
            case 5:
                return asked.spot;
            case 6:
                return asked.backs.size();
            case 7:
                return asked.copy.isSameAs(now.text) ? 1 : 0;
            case 8:
                return asked.written;
            default:
                return INVALID_ARGUMENT;
        }
    }

    public int waitingOf(int editor, int index, int what) {
        if (isNoEditor(editor) || index < 0 || what < 0 || what > 2) {
            return INVALID_ARGUMENT;
        }
        return partOf(now.editor(editor).waiting, index, what);
    }

    public int logOf(int index, int what) {
        if (index < 0 || what < 0 || what > 3) {
            return INVALID_ARGUMENT;
        }
        return partOf(now.log, index, what);
    }

    public int by(int place) {
        if (place < 0) {
            return INVALID_ARGUMENT;
        }
        return place < now.writers.size() ? now.writers.at(place) : NOT_FOUND;
    }

    public int count(int what) {
        switch (what) {
            case 0:
                return now.log.size();
            case 1:
                return now.text.size();
            case 2:
                return now.nothingsInLog();
            case 3:
                return now.waitingOfAll();
            case 4:
                return now.settledEditors();
            case 5:
                return past.size;
            case 6:
                return commands.signs.size();
            default:
                return INVALID_ARGUMENT;
        }
    }

    // ---- what would be

    public int inTheEnd(int order, int place) {
        if (order < 0 || order > 1 || place < 0) {
            return INVALID_ARGUMENT;
        }
        trial.copyEndOf(now, order == 1);
        return place < trial.text.size() ? trial.text.at(place) : NOT_FOUND;
    }

    public int both(int what) {
        if (what < 0 || what > 3) {
            return INVALID_ARGUMENT;
        }
        upwards.copyEndOf(now, false);
        downwards.copyEndOf(now, true);
        switch (what) {
            case 0:
                return upwards.text.size();
            case 1:
                return downwards.text.size();
            case 2:
                return upwards.text.isSameAs(downwards.text) ? 1 : 0;
            default:
                return upwards.isOneText() && downwards.isOneText() ? 1 : 0;
        }
    }

    public int wouldSend(int editor, int what) {
        if (isNoEditor(editor) || what < 0 || what > 1) {
            return INVALID_ARGUMENT;
        }
        Editor asked = now.editor(editor);
        if (!asked.canSend()) {
            return NOT_POSSIBLE;
        }
        return Change.part(asked.outgoing(now.log), what);
    }

    public int undo() {
        if (past.size == 0) {
            return NOT_POSSIBLE;
        }
        past.restore(now);
        return past.size;
    }

    // ---- texts

    public int type(int character) {
        if (character < FIRST_CHARACTER || character > LAST_CHARACTER) {
            return INVALID_ARGUMENT;
        }
        if (commands.signs.size() >= COMMAND_TEXT_MOST) {
            return LIMIT_REACHED;
        }
        commands.signs.add(character);
        return commands.signs.size();
    }

    public int clearText() {
        int had = commands.signs.size();
        commands.signs.empty();
        return had;
    }

    public int fault(int what) {
        if (what < 0 || what > 2) {
            return INVALID_ARGUMENT;
        }
        trial.copyState(now);
        commands.runOn(trial);
        if (commands.reason == 0 || (what == 2 && commands.reason == WRONG_FORM)) {
            return NOT_FOUND;
        }
        if (what == 0) {
            return commands.position;
        }
        return what == 1 ? commands.reason : commands.cause;
    }

    public int play() {
        trial.copyState(now);
        commands.runOn(trial);
        if (commands.reason != 0) {
            return NOT_POSSIBLE;
        }
        past.prepare(now);
        past.keep();
        now.copyState(trial);
        return commands.done;
    }

    private int recorded(int call, int editor, int second, int third) {
        past.prepare(now);
        int answer = now.answer(call, editor, second, third);
        if (answer >= 0) {
            past.keep();
        }
        return answer;
    }

    private static boolean isNoEditor(int number) {
        return number < 0 || number >= EDITORS;
    }

    private static int partOf(Numbers changes, int index, int what) {
        return index < changes.size() ? Change.part(changes.at(index), what) : NOT_FOUND;
    }

    /** A row of numbers up to a length that is fixed; what lies outside it is 0 and can't be put. */
    private static final class Numbers {
        private final int[] cells;
        private int size;

        Numbers(int most) {
            cells = new int[Math.max(most, 0)];
            size = 0;
        }

        int size() {
            return size;
        }

        int at(int index) {
            return index >= 0 && index < size && index < cells.length ? cells[index] : 0;
        }

        void put(int index, int number) {
            if (index >= 0 && index < size && index < cells.length) {
                cells[index] = number;
            }
        }

        void add(int number) {
            addAt(size, number);
        }

        void addAt(int index, int number) {
            if (index < 0 || index > size || size >= cells.length) {
                return;
            }
            for (int i = size; i > index; i--) {
                cells[i] = cells[i - 1];
            }
            cells[index] = number;
            size++;
        }

        void removeAt(int index) {
            if (index < 0 || index >= size || size > cells.length) {
                return;
            }
            size--;
            for (int i = index; i < size; i++) {
                cells[i] = cells[i + 1];
            }
        }

        void empty() {
            size = 0;
        }

        void copyNumbers(Numbers other) {
            int length = Math.min(other.size, Math.min(other.cells.length, cells.length));
            for (int i = 0; i < length; i++) {
                cells[i] = other.cells[i];
            }
            size = length;
        }

        boolean isSameAs(Numbers other) {
            if (size != other.size) {
                return false;
            }
            for (int i = 0; i < size; i++) {
                if (at(i) != other.at(i)) {
                    return false;
                }
            }
            return true;
        }
    }

    /**
     * A change, packed into one number, so that reshaping makes no objects: from the lowest bits
     * on its kind, its writer, its letter, its place.
     */
    private static final class Change {
        private static final int KIND_MASK = 3;
        private static final int WRITER_SHIFT = 2;
        private static final int WRITER_MASK = 3 << WRITER_SHIFT;
        private static final int LETTER_SHIFT = 4;
        private static final int LETTER_MASK = 31;
        private static final int PLACE_SHIFT = 9;
        private static final int ONE_PLACE = 1 << PLACE_SHIFT;

        static int of(int kind, int place, int sign, int writer) {
            return kind | (writer << WRITER_SHIFT) | (sign << LETTER_SHIFT)
                    | (place << PLACE_SHIFT);
        }

        static int kind(int change) {
            return change & KIND_MASK;
        }

        static int place(int change) {
            return change >> PLACE_SHIFT;
        }

        static int sign(int change) {
            return (change >> LETTER_SHIFT) & LETTER_MASK;
        }

        static int writer(int change) {
            return (change & WRITER_MASK) >> WRITER_SHIFT;
        }

        /** What is told of a change: 0: kind, 1: place, 2: letter, 3: writer. */
        static int part(int change, int what) {
            int kind = kind(change);
            switch (what) {
                case 0:
                    return kind;
                case 1:
                    return kind == NOTHING ? NOT_FOUND : place(change);
                case 2:
                    return kind == PUT_IN ? sign(change) : NOT_FOUND;
                default:
                    return writer(change);
            }
        }

        static int reshaped(int change, int ahead) {
            int kind = change & KIND_MASK;
            int kindAhead = ahead & KIND_MASK;
            if (kind == NOTHING || kindAhead == NOTHING) {
                return change;
            }
            int place = change >> PLACE_SHIFT;
            int placeAhead = ahead >> PLACE_SHIFT;
            boolean same = placeAhead == place;
            if (kindAhead == PUT_IN) {
                boolean hasLower = (ahead & WRITER_MASK) < (change & WRITER_MASK);
                boolean goesFirst = same && (kind == TAKE_OUT || hasLower);
                return placeAhead < place || goesFirst ? change + ONE_PLACE : change;
            }
            if (placeAhead < place) {
                return change - ONE_PLACE;
            }
            return same && kind == TAKE_OUT ? change - kind : change;
        }

        /** Reshapes all changes of the row by one that is heard, and that one by them. */
        static int passThrough(Numbers row, int heard) {
            int passing = heard;
            for (int i = 0; i < row.size(); i++) {
                int own = row.at(i);
                row.put(i, reshaped(own, passing));
                passing = reshaped(passing, own);
            }
            return passing;
        }
    }

    /** One editor: the own copy, the mark, what waits, and what can be taken back. */
    private static final class Editor {
        private final int number;
        private final Numbers copy;
        private final Numbers waiting;
        private final Numbers backs;
        private boolean underWay;
        private int heard;
        private int spot;
        private int written;

        Editor(int number) {
            this.number = number;
            copy = new Numbers(END_MOST);
            waiting = new Numbers(WAITING_MOST);
            backs = new Numbers(BACKS_MOST);
        }

        int putIn(int place, int sign) {
            if (place < 0 || place > copy.size() || sign < 0 || sign >= LETTERS) {
                return INVALID_ARGUMENT;
            }
            if (copy.size() >= COPY_MOST || waiting.size() >= WAITING_MOST) {
                return LIMIT_REACHED;
            }
            write(Change.of(PUT_IN, place, sign, number));
            keepBack(Change.of(TAKE_OUT, place, 0, number));
            return copy.size();
        }

        int takeOut(int place) {
            if (place < 0 || place >= copy.size()) {
                return INVALID_ARGUMENT;
            }
            if (waiting.size() >= WAITING_MOST) {
                return LIMIT_REACHED;
            }
            int sign = copy.at(place);
            write(Change.of(TAKE_OUT, place, 0, number));
            keepBack(Change.of(PUT_IN, place, sign, number));
            return sign;
        }

        int goBack() {
            int last = backs.size() - 1;
            if (last < 0) {
                return NOT_POSSIBLE;
            }
            int change = backs.at(last);
            int kind = Change.kind(change);
            if (waiting.size() >= WAITING_MOST || (kind == PUT_IN && copy.size() >= COPY_MOST)) {
                return LIMIT_REACHED;
            }
            backs.removeAt(last);
            if (kind != NOTHING) {
                write(change);
            }
            return kind;
        }

        int setSpot(int place) {
            if (place < 0 || place > copy.size()) {
                return INVALID_ARGUMENT;
            }
            int was = spot;
            spot = place;
            return was;
        }

        boolean canSend() {
            return waiting.size() > 0 && !underWay;
        }

        /** The first change that waits, as it would come to the end of the log. */
        int outgoing(Numbers log) {
            int change = waiting.at(0);
            for (int i = heard; i < log.size(); i++) {
                change = Change.reshaped(change, log.at(i));
            }
            return change;
        }

        int hearNext(Numbers log) {
            if (heard >= log.size()) {
                return NOT_POSSIBLE;
            }
            int change = log.at(heard);
            heard++;
            if (underWay && Change.writer(change) == number) {
                waiting.removeAt(0);
                underWay = false;
                return NOTHING;
            }
            int arrived = Change.passThrough(waiting, change);
            apply(arrived);
            return Change.kind(arrived);
        }

        int hearRest(Numbers log) {
            int rest = log.size() - heard;
            if (rest <= 0) {
                return NOT_POSSIBLE;
            }
            for (int i = 0; i < rest; i++) {
                hearNext(log);
            }
            return rest;
        }

        boolean isSettled(Numbers log) {
            return waiting.size() == 0 && heard >= log.size();
        }

        void forget() {
            copy.empty();
            waiting.empty();
            backs.empty();
            underWay = false;
            heard = 0;
            spot = 0;
            written = 0;
        }

        void copyEditor(Editor other) {
            copy.copyNumbers(other.copy);
            waiting.copyNumbers(other.waiting);
            backs.copyNumbers(other.backs);
            underWay = other.underWay;
            heard = other.heard;
            spot = other.spot;
            written = other.written;
        }

        private void write(int change) {
            apply(change);
            waiting.add(change);
            written++;
        }

        private void apply(int change) {
            int place = Change.place(change);
            int kind = Change.kind(change);
            if (kind == PUT_IN) {
                copy.addAt(place, Change.sign(change));
                spot += place <= spot ? 1 : 0;
            } else if (kind == TAKE_OUT) {
                copy.removeAt(place);
                spot -= place < spot ? 1 : 0;
            }
            for (int i = 0; i < backs.size(); i++) {
                backs.put(i, Change.reshaped(backs.at(i), change));
            }
        }

        private void keepBack(int opposite) {
            if (backs.size() >= BACKS_MOST) {
                backs.removeAt(0);
            }
            backs.add(opposite);
        }
    }

    /** All that the history records: the three editors, the log and its text. */
    private static final class State {
        private final Editor first;
        private final Editor second;
        private final Editor third;
        private final Numbers log;
        private final Numbers text;
        // Who put in the letters of the text, place by place.
        private final Numbers writers;

        State() {
            first = new Editor(0);
            second = new Editor(1);
            third = new Editor(2);
            log = new Numbers(END_MOST);
            text = new Numbers(END_MOST);
            writers = new Numbers(END_MOST);
        }

        Editor editor(int number) {
            if (number == 0) {
                return first;
            }
            return number == 1 ? second : third;
        }

        int answer(int call, int number, int place, int sign) {
            if (isNoEditor(number)) {
                return INVALID_ARGUMENT;
            }
            Editor editor = editor(number);
            switch (call) {
                case WRITE_IN:
                    return editor.putIn(place, sign);
                case WRITE_OUT:
                    return editor.takeOut(place);
                case TAKE_BACK:
                    return editor.goBack();
                case SET_MARK:
                    return editor.setSpot(place);
                case SEND:
                    return pass(editor);
                case HEAR:
                    return editor.hearNext(log);
                default:
                    return editor.hearRest(log);
            }
        }

        int nothingsInLog() {
            int found = 0;
            for (int i = 0; i < log.size(); i++) {
                found += Change.kind(log.at(i)) == NOTHING ? 1 : 0;
            }
            return found;
        }

        int waitingOfAll() {
            return first.waiting.size() + second.waiting.size() + third.waiting.size();
        }

        int settledEditors() {
            int found = 0;
            for (int number = 0; number < EDITORS; number++) {
                found += editor(number).isSettled(log) ? 1 : 0;
            }
            return found;
        }

        boolean isOneText() {
            return first.copy.isSameAs(text) && second.copy.isSameAs(text)
                    && third.copy.isSameAs(text);
        }

        void begin() {
            first.forget();
            second.forget();
            third.forget();
            log.empty();
            text.empty();
            writers.empty();
        }

        void copyState(State other) {
            first.copyEditor(other.first);
            second.copyEditor(other.second);
            third.copyEditor(other.third);
            log.copyNumbers(other.log);
            text.copyNumbers(other.text);
            writers.copyNumbers(other.writers);
        }

        void copyEndOf(State other, boolean lastFirst) {
            copyState(other);
            for (int i = 0; i < EDITORS; i++) {
                Editor editor = editor(lastFirst ? EDITORS - 1 - i : i);
                // Each turn takes one change from the row, and one more hears what is left.
                for (int turn = 0; turn <= WAITING_MOST && !editor.isSettled(log); turn++) {
                    if (editor.canSend()) {
                        append(editor);
                    }
                    editor.hearRest(log);
                }
            }
            for (int number = 0; number < EDITORS; number++) {
                editor(number).hearRest(log);
            }
        }

        private int pass(Editor editor) {
            if (!editor.canSend()) {
                return NOT_POSSIBLE;
            }
            if (log.size() >= LOG_MOST) {
                return LIMIT_REACHED;
            }
            append(editor);
            return log.size();
        }

        private void append(Editor editor) {
            int change = editor.outgoing(log);
            int place = Change.place(change);
            int kind = Change.kind(change);
            if (kind == PUT_IN) {
                text.addAt(place, Change.sign(change));
                writers.addAt(place, Change.writer(change));
            } else if (kind == TAKE_OUT) {
                text.removeAt(place);
                writers.removeAt(place);
            }
            log.add(change);
            editor.underWay = true;
        }
    }

    /** The latest states, the newest one first; dropped ones are written over. */
    private static final class History {
        private State newest;
        private State second;
        private State third;
        private State oldest;
        private State spare;
        private int size;

        History() {
            newest = new State();
            second = new State();
            third = new State();
            oldest = new State();
            spare = new State();
        }

        /** Writes a state down that counts only when it is kept: the call may still fail. */
        void prepare(State now) {
            spare.copyState(now);
        }

        void keep() {
            State dropped = oldest;
            oldest = third;
            third = second;
            second = newest;
            newest = spare;
            spare = dropped;
            size = Math.min(size + 1, HISTORY_MOST);
        }

        void restore(State now) {
            State used = newest;
            now.copyState(used);
            newest = second;
            second = third;
            third = oldest;
            oldest = used;
            size = Math.max(size - 1, 0);
        }
    }

    /** The text of commands, and what came of its latest run. */
    private static final class Commands {
        private static final int MOST_NUMBERS = 3;

        private final Numbers signs;
        private final Numbers numbers;
        // Where the run stopped: at the end, or at the first character of the command at fault.
        private int position;
        private int reason;
        private int cause;
        private int done;

        Commands() {
            signs = new Numbers(COMMAND_TEXT_MOST);
            numbers = new Numbers(MOST_NUMBERS);
        }

        void runOn(State state) {
            position = 0;
            reason = 0;
            cause = 0;
            done = 0;
            for (int turn = 0; turn < COMMAND_TEXT_MOST && position < signs.size(); turn++) {
                int end = read(position);
                if (end == 0) {
                    reason = WRONG_FORM;
                    return;
                }
                int answer = state.answer(signs.at(position), numbers.at(0), numbers.at(1),
                        numbers.at(2));
                if (answer < 0) {
                    reason = WRONG_CALL;
                    cause = answer;
                    return;
                }
                position = end;
                done++;
            }
        }

        /** Reads the numbers of a command and returns where it ends, 0 if its form is wrong. */
        private int read(int start) {
            int wanted = numbersOf(signs.at(start));
            int next = start + 1;
            numbers.empty();
            for (int i = 0; i < wanted; i++) {
                int digits = digitsAt(next);
                int behind = next + digits;
                // Behind the end of the text stands 0, which is neither of these.
                if (digits == 0 || signs.at(behind) != (i < wanted - 1 ? ',' : ';')) {
                    return 0;
                }
                numbers.add(numberAt(next, digits));
                next = behind + 1;
            }
            return wanted == 0 ? 0 : next;
        }

        private static int numbersOf(int sign) {
            switch (sign) {
                case WRITE_IN:
                    return MOST_NUMBERS;
                case WRITE_OUT:
                    return 2;
                case SEND:
                case HEAR:
                case TAKE_BACK:
                    return 1;
                default:
                    return 0;
            }
        }

        private int digitsAt(int start) {
            if (!isDigit(signs.at(start))) {
                return 0;
            }
            return isDigit(signs.at(start + 1)) ? 2 : 1;
        }

        private int numberAt(int start, int digits) {
            int number = signs.at(start) - '0';
            return digits == 2 ? number * 10 + signs.at(start + 1) - '0' : number;
        }

        private static boolean isDigit(int sign) {
            return sign >= '0' && sign <= '9';
        }
    }
}
