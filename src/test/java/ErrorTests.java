import java.util.function.ToIntFunction;

/** Changes and errors: what is recorded, and which error goes before which. */
final class ErrorTests extends SentenceTests {
    private static final String RECORDED = "Recorded are the calls of insert, delete, send, hear, "
            + "hearAll, takeBack, mark, clear and play that return no error.";

    private void recorded(String call, ToIntFunction<Texts> made) {
        int states = x.count(5);
        int answer = made.applyAsInt(x);
        due(call + " is no error", answer < 0 ? answer : 0, 0);
        due("states behind " + call, x.count(5), states + 1);
    }

    private void notRecorded(String call, ToIntFunction<Texts> made) {
        int states = x.count(5);
        made.applyAsInt(x);
        due("states behind " + call, x.count(5), states);
    }

    @Sentence(of = "Changes and errors", says = RECORDED)
    void changesAndErrorsEachOfTheseCallsIsRecorded() {
        recorded("insert", y -> y.insert(0, 0, 0));
        recorded("send", y -> y.send(0));
        recorded("hear", y -> y.hear(1));
        recorded("delete", y -> y.delete(1, 0));
        anew();
        write(1, 0, "a");
        recorded("mark", y -> y.mark(1, 0));
        recorded("takeBack", y -> y.takeBack(1));
        recorded("clear", Texts::clear);
        anew();
        x.insert(0, 0, 0);
        x.send(0);
        recorded("hearAll", y -> y.hearAll(2));
        typed("h1;");
        recorded("play", Texts::play);
    }

    @Sentence(of = "Changes and errors", says = RECORDED)
    void changesAndErrorsCallsThatAlterLittleAreRecordedToo() {
        recorded("mark to the same place", y -> y.mark(0, 0));
        recorded("clear of what is clear", Texts::clear);
        recorded("play of no commands", Texts::play);
        recorded("insert", y -> y.insert(0, 0, 0));
        anew();
        x.insert(0, 0, 0);
        x.send(0);
        recorded("hear of the own one", y -> y.hear(0));
        anew();
        common(2, "a");
        x.delete(0, 0);
        x.send(0);
        x.delete(1, 0);
        due("hear of what became nothing", x.hear(1), 0);
        due("undo of that", x.undo(), 3);
        due("it is not heard", x.editorOf(1, 4), 1);
        waits(1, 0, 2, 0, NOT_FOUND);
        anew();
        x.insert(0, 0, 0);
        x.delete(0, 0);
        recorded("takeBack that puts in", y -> y.takeBack(0));
        recorded("takeBack of what became nothing", y -> y.takeBack(0));
        due("undo of that", x.undo(), 3);
        due("it can be taken back again", x.takeBack(0), 0);
    }

    @Sentence(of = "Changes and errors", says = RECORDED)
    void changesAndErrorsCallsThatReturnAnErrorAreNotRecorded() {
        x.mark(0, 0);
        notRecorded("insert", y -> y.insert(0, 1, 0));
        notRecorded("delete", y -> y.delete(0, 0));
        notRecorded("send", y -> y.send(0));
        notRecorded("hear", y -> y.hear(0));
        notRecorded("hearAll", y -> y.hearAll(0));
        notRecorded("takeBack", y -> y.takeBack(0));
        notRecorded("mark", y -> y.mark(0, 1));
        x.type('s');
        notRecorded("play", Texts::play);
        due("the mark alone is undone", x.undo(), 0);
    }

    @Sentence(of = "Changes and errors", says = RECORDED)
    void changesAndErrorsOtherCallsAreNotRecorded() {
        x.insert(0, 0, 0);
        notRecorded("letter", y -> y.letter(0, 0));
        notRecorded("editorOf", y -> y.editorOf(0, 0));
        notRecorded("waitingOf", y -> y.waitingOf(0, 0, 0));
        notRecorded("wouldSend", y -> y.wouldSend(0, 0));
        x.send(0);
        notRecorded("logOf", y -> y.logOf(0, 0));
        notRecorded("by", y -> y.by(0));
        notRecorded("count", y -> y.count(0));
        notRecorded("inTheEnd", y -> y.inTheEnd(0, 0));
        notRecorded("both", y -> y.both(3));
        notRecorded("type", y -> y.type('h'));
        notRecorded("type", y -> y.type('1'));
        notRecorded("type", y -> y.type(';'));
        notRecorded("fault", y -> y.fault(0));
        notRecorded("clearText", Texts::clearText);
        due("undo takes one away", x.undo(), 1);
        due("and the next one", x.undo(), 0);
    }

    @Sentence(of = "Changes and errors", says = "A history of at most 4 states is kept:")
    void changesAndErrorsFourStatesAreKept() {
        for (int i = 0; i <= 6; i++) {
            due("states behind " + i, x.count(5), Math.min(i, 4));
            x.mark(0, 0);
        }
        for (int left = 3; left >= 0; left--) {
            due("undo", x.undo(), left);
        }
        due("a fifth undo", x.undo(), NOT_POSSIBLE);
    }

    @Sentence(of = "Changes and errors", says = "and if there are 5 states then, the oldest one is "
            + "dropped.")
    void changesAndErrorsTheOldestStateIsDropped() {
        write(0, 0, "abcde");
        for (int letters = 4; letters >= 1; letters--) {
            x.undo();
            text(0, "abcde".substring(0, letters));
        }
        due("the empty one was dropped", x.undo(), NOT_POSSIBLE);
        text(0, "a");
        // Once more, when the states have been restored and kept in turn.
        write(0, 1, "bcd");
        x.undo();
        write(0, 3, "def");
        for (int letters = 5; letters >= 2; letters--) {
            x.undo();
            text(0, "abcdef".substring(0, letters));
        }
        due("no more", x.undo(), NOT_POSSIBLE);
    }

    /** Some of everything, in 18 calls: in the log, waiting, under way, taken back, marked. */
    private void someOfEverything() {
        common(0, "ab");
        write(1, 2, "cd");
        x.send(1);
        x.insert(2, 0, 25);
        x.delete(2, 1);
        x.mark(2, 1);
        x.hear(0);
    }

    private void undone(String call, ToIntFunction<Texts> made) {
        anew();
        someOfEverything();
        String before = everything();
        due(call + " is no error", Math.min(made.applyAsInt(x), 0), 0);
        due("undo of " + call, x.undo(), 3);
        // The call dropped the oldest of four states.
        dueText("all behind undo of " + call, everything(), before.replaceFirst(
                "^( \\d+ \\d+ \\d+ \\d+ \\d+) 4 ", "$1 3 "));
    }

    @Sentence(of = "Changes and errors", says = "each of them records everything before it")
    void changesAndErrorsAStateRecordsEverythingBeforeTheCall() {
        undone("insert", y -> y.insert(1, 0, 5));
        undone("delete", y -> y.delete(1, 0));
        undone("takeBack", y -> y.takeBack(1));
        undone("mark", y -> y.mark(1, 1));
        undone("send", y -> y.send(2));
        undone("hear", y -> y.hear(1));
        undone("hearAll", y -> y.hearAll(2));
        undone("clear", Texts::clear);
        undone("play", Texts::play);
    }

    @Sentence(of = "Changes and errors", says = "each of them records everything before it but the "
            + "text of commands")
    void changesAndErrorsAStateDoesNotRecordTheTextOfCommands() {
        typed("i0");
        x.mark(0, 0);
        x.clearText();
        typed("abc");
        due("undo", x.undo(), 0);
        due("the length of the text", x.count(6), 3);
        due("its fault", x.fault(0), 0);
        typed("i0,0,7;");
        x.play();
        x.clearText();
        x.undo();
        due("the length, when it was cleared", x.count(6), 0);
        text(0, "");
    }

    @Sentence(of = "Changes and errors", says = "If several errors apply to a call, "
            + "INVALID_ARGUMENT is returned rather than NOT_POSSIBLE")
    void changesAndErrorsInvalidArgumentRatherThanNotPossible() {
        for (int editor : NO_EDITORS) {
            due("takeBack of " + editor, x.takeBack(editor), INVALID);
            due("send of " + editor, x.send(editor), INVALID);
            due("hear of " + editor, x.hear(editor), INVALID);
            due("hearAll of " + editor, x.hearAll(editor), INVALID);
            due("wouldSend of " + editor, x.wouldSend(editor, 0), INVALID);
        }
        due("wouldSend of what -1, when none waits", x.wouldSend(0, -1), INVALID);
        due("wouldSend of what 2, when none waits", x.wouldSend(0, 2), INVALID);
        write(0, 0, "a");
        x.send(0);
        due("wouldSend of what 2, when one is under way", x.wouldSend(0, 2), INVALID);
    }

    @Sentence(of = "Changes and errors", says = "INVALID_ARGUMENT is returned rather than "
            + "NOT_POSSIBLE, NOT_POSSIBLE rather than LIMIT_REACHED")
    void changesAndErrorsNotPossibleRatherThanLimitReached() {
        for (int i = 0; i < 3; i++) {
            x.insert(0, 0, i);
            x.takeBack(0);
        }
        due("six wait", x.editorOf(0, 1), 6);
        due("none can be taken back", x.takeBack(0), NOT_POSSIBLE);
        anew();
        fillLog(0, 59);
        due("none waits, of 59", x.send(0), NOT_POSSIBLE);
        x.insert(0, 0, 0);
        x.insert(0, 0, 0);
        x.send(0);
        due("one is under way, of 60", x.send(0), NOT_POSSIBLE);
        due("none waits, of 60", x.send(1), NOT_POSSIBLE);
        x.hear(0);
        due("the log has 60", x.send(0), LIMIT);
    }

    @Sentence(of = "Changes and errors", says = "INVALID_ARGUMENT is returned rather than "
            + "NOT_POSSIBLE, NOT_POSSIBLE rather than LIMIT_REACHED")
    void changesAndErrorsInvalidArgumentRatherThanLimitReached() {
        write(0, 0, "abcdef");
        due("insert behind the end", x.insert(0, 7, 0), INVALID);
        due("insert at -1", x.insert(0, -1, 0), INVALID);
        due("insert of letter 26", x.insert(0, 0, 26), INVALID);
        due("insert of letter -1", x.insert(0, 0, -1), INVALID);
        due("delete at the length", x.delete(0, 6), INVALID);
        due("delete at -1", x.delete(0, -1), INVALID);
        due("insert of them all", x.insert(0, 0, 0), LIMIT);
        due("delete of them all", x.delete(0, 0), LIMIT);
        for (int i = 0; i < 60; i++) {
            x.type('0');
        }
        due("type of 31", x.type(31), INVALID);
        due("type of 127", x.type(127), INVALID);
        due("type of 32", x.type(32), LIMIT);
        anew();
        publish(0, 0, "aaaaaaaaaaaaaaaaaaaaaaaaaaaaaa");
        due("insert of letter 26 into 30", x.insert(0, 0, 26), INVALID);
        due("insert behind 30", x.insert(0, 31, 0), INVALID);
        due("insert into 30", x.insert(0, 30, 0), LIMIT);
        anew();
        fillLog(0, 60);
        x.insert(0, 0, 0);
        due("send of no editor", x.send(3), INVALID);
    }

    @Sentence(of = "Changes and errors", says = "and LIMIT_REACHED rather than NOT_FOUND.")
    void changesAndErrorsTheOthersRatherThanNotFound() {
        due("letter of whose 4, of none", x.letter(4, 0), INVALID);
        due("letter of whose -1, of none", x.letter(-1, 0), INVALID);
        due("waitingOf what 3, of none", x.waitingOf(0, 0, 3), INVALID);
        due("waitingOf what -1, of none", x.waitingOf(0, 0, -1), INVALID);
        due("waitingOf editor 3, of none", x.waitingOf(3, 0, 0), INVALID);
        due("logOf what 4, of none", x.logOf(0, 4), INVALID);
        due("logOf what -1, of none", x.logOf(0, -1), INVALID);
        due("inTheEnd of order 2, of none", x.inTheEnd(2, 0), INVALID);
        due("inTheEnd of order -1, of none", x.inTheEnd(-1, 0), INVALID);
        due("wouldSend, when none waits", x.wouldSend(0, 1), NOT_POSSIBLE);
        due("fault of what 3, of none", x.fault(3), INVALID);
        due("fault of what -1, of none", x.fault(-1), INVALID);
        common(0, "a");
        x.delete(0, 0);
        x.delete(1, 0);
        x.send(0);
        due("wouldSend of what 2, if it would be nothing", x.wouldSend(1, 2), INVALID);
        x.send(1);
        due("wouldSend of one under way, which is nothing", x.wouldSend(1, 1), NOT_POSSIBLE);
    }

    /** The state behind some undos, with errors made before them or without. */
    private String behind(boolean withErrors, int undos) {
        anew();
        someOfEverything();
        write(1, 4, "efg");
        x.insert(1, 4, 25);
        typed("s");
        if (withErrors) {
            everyError();
        }
        for (int i = 0; i < undos; i++) {
            x.undo();
        }
        return everything();
    }

    private void everyError() {
        int[] answers = {
            x.insert(3, 0, 0), x.insert(0, 9, 0), x.insert(0, 0, 26), x.insert(1, 0, 0),
            x.delete(-1, 0), x.delete(0, 9), x.delete(1, 0), x.takeBack(3), x.takeBack(1),
            x.mark(3, 0), x.mark(0, 9), x.mark(0, -1), x.send(3), x.send(0), x.send(1), x.hear(3),
            x.hear(0), x.hearAll(3), x.hearAll(0), x.letter(4, 0), x.letter(0, 9), x.letter(0, -1),
            x.editorOf(3, 0), x.editorOf(0, 9), x.waitingOf(3, 0, 0), x.waitingOf(0, 0, 0),
            x.waitingOf(0, -1, 0), x.waitingOf(1, 0, 3), x.logOf(9, 0), x.logOf(-1, 0),
            x.logOf(0, 4), x.by(9), x.by(-1), x.count(7), x.count(-1), x.inTheEnd(2, 0),
            x.inTheEnd(0, 99), x.inTheEnd(0, -1), x.both(4), x.both(-1), x.wouldSend(3, 0),
            x.wouldSend(0, 0), x.wouldSend(2, 2), x.type(31), x.type(127), x.fault(3),
            x.fault(-1), x.fault(2), x.play()
        };
        for (int i = 0; i < answers.length; i++) {
            due("error " + i, answers[i] < 0 ? 1 : 0, 1);
        }
    }

    @Sentence(of = "Changes and errors", says = "A call that returns an error changes nothing.")
    void changesAndErrorsACallThatReturnsAnErrorChangesNothing() {
        for (int undos = 0; undos <= 4; undos++) {
            String with = behind(true, undos);
            dueText("all behind errors and " + undos + " times undo", with, behind(false, undos));
        }
        anew();
        String before = everything();
        due("undo of nothing", x.undo(), NOT_POSSIBLE);
        dueText("all behind that", everything(), before);
    }

    @Sentence(of = "Changes and errors", says = "A call that returns an error changes nothing.")
    void changesAndErrorsErrorsAtFullLimitsChangeNothing() {
        fillLog(0, 58);
        publish(0, 0, "ab");
        x.insert(0, 0, 2);
        due("a 61st change", x.send(0), LIMIT);
        due("the log", x.count(0), 60);
        text(3, "ab");
        due("it is not under way", x.editorOf(0, 2), 0);
        due("nor gone", x.editorOf(0, 1), 1);
        for (int i = 0; i < 60; i++) {
            x.type('0');
        }
        due("a 61st character", x.type('i'), LIMIT);
        due("the text", x.count(6), 60);
        anew();
        publish(1, 0, "abcdefghijklmnopqrstuvwxyzabcd");
        x.delete(1, 29);
        flush(1);
        publish(0, 0, "z");
        x.hearAll(1);
        due("30 letters", x.editorOf(1, 0), 30);
        due("put in again", x.takeBack(1), LIMIT);
        due("it can still be taken back", x.editorOf(1, 6), 6);
        due("nothing waits", x.editorOf(1, 1), 0);
        due("a 31st letter", x.insert(1, 0, 0), LIMIT);
        due("30 letters still", x.editorOf(1, 0), 30);
        due("nothing was written", x.editorOf(1, 8), 31);
    }

    @Sentence(of = "Changes and errors", says = "A call that returns an error changes nothing.")
    void changesAndErrorsATextAtFaultIsNotDoneInPart() {
        typed("i0,0,7;s0;h1;s9;");
        due("play", x.play(), NOT_POSSIBLE);
        text(0, "");
        due("the log", x.count(0), 0);
        due("the history", x.count(5), 0);
        due("the text", x.count(6), 16);
    }

    @Sentence(of = "Changes and errors", says = "If there is no editor with a certain number, this "
            + "is INVALID_ARGUMENT.")
    void changesAndErrorsNoSuchEditorIsInvalid() {
        for (int editor : NO_EDITORS) {
            due("insert of " + editor, x.insert(editor, 0, 0), INVALID);
            due("delete of " + editor, x.delete(editor, 0), INVALID);
            due("takeBack of " + editor, x.takeBack(editor), INVALID);
            due("mark of " + editor, x.mark(editor, 0), INVALID);
            due("send of " + editor, x.send(editor), INVALID);
            due("hear of " + editor, x.hear(editor), INVALID);
            due("hearAll of " + editor, x.hearAll(editor), INVALID);
            due("editorOf " + editor, x.editorOf(editor, 0), INVALID);
            due("waitingOf " + editor, x.waitingOf(editor, 0, 0), INVALID);
            due("wouldSend of " + editor, x.wouldSend(editor, 0), INVALID);
        }
        fault("i03,0,0;", 0, 2, INVALID);
        fault("h99;", 0, 2, INVALID);
    }

    @Sentence(of = "Changes and errors", says = "`INVALID_ARGUMENT = -1`: An argument is out of its "
            + "range, or there is no such editor.")
    void changesAndErrorsInvalidArgumentIsMinus1() {
        due("INVALID_ARGUMENT", ReshapedTexts.INVALID_ARGUMENT, -1);
        due("a wrong argument", x.count(-1), -1);
        due("a wrong editor", x.send(3), -1);
    }

    @Sentence(of = "Changes and errors", says = "`NOT_POSSIBLE = -2`: The call is not possible in "
            + "the present state.")
    void changesAndErrorsNotPossibleIsMinus2() {
        due("NOT_POSSIBLE", ReshapedTexts.NOT_POSSIBLE, -2);
        due("what is not possible", x.undo(), -2);
    }

    @Sentence(of = "Changes and errors", says = "`LIMIT_REACHED = -3`: A fixed limit has been "
            + "reached.")
    void changesAndErrorsLimitReachedIsMinus3() {
        due("LIMIT_REACHED", ReshapedTexts.LIMIT_REACHED, -3);
        write(0, 0, "abcdef");
        due("a limit", x.insert(0, 0, 0), -3);
    }

    @Sentence(of = "Changes and errors", says = "`NOT_FOUND = -4`: There is no such value.")
    void changesAndErrorsNotFoundIsMinus4() {
        due("NOT_FOUND", ReshapedTexts.NOT_FOUND, -4);
        due("what is not there", x.by(0), -4);
    }
}
