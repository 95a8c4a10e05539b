/** Promises 6 to 9: what is sent and heard, and clear. */
final class HearingTests extends SentenceTests {
    @Sentence(of = "Promise 6", says = "An editor sends the first change that waits.")
    void promise6SendsTheFirstOneThatWaits() {
        write(1, 0, "ab");
        x.send(1);
        inLog(0, 1, 0, 0, 1);
        text(3, "a");
        x.hear(1);
        x.send(1);
        inLog(1, 1, 1, 1, 1);
        text(3, "ab");
    }

    @Sentence(of = "Promise 6", says = "- `editor`: number of the editor")
    void promise6EditorIs0To2() {
        for (int editor = 0; editor < 3; editor++) {
            x.insert(editor, 0, editor);
        }
        for (int editor : NO_EDITORS) {
            due("editor " + editor, x.send(editor), INVALID);
        }
        for (int editor = 0; editor < 3; editor++) {
            due("editor " + editor, x.send(editor), editor + 1);
        }
    }

    @Sentence(of = "Promise 6", says = "Returns how many changes the log has then;")
    void promise6ReturnsHowManyTheLogHas() {
        common(0, "a");
        x.delete(0, 0);
        x.delete(1, 0);
        x.insert(2, 0, 0);
        due("behind one", x.send(0), 2);
        due("of one that is nothing", x.send(1), 3);
        due("of another editor", x.send(2), 4);
    }

    @Sentence(of = "Promise 6", says = "INVALID_ARGUMENT;")
    void promise6InvalidIfThereIsNoSuchEditor() {
        due("editor 3, when none waits", x.send(3), INVALID);
        due("editor -1, when none waits", x.send(-1), INVALID);
    }

    @Sentence(of = "Promise 6", says = "NOT_POSSIBLE if none waits")
    void promise6NotPossibleIfNoneWaits() {
        due("of a new one", x.send(0), NOT_POSSIBLE);
        write(1, 0, "a");
        due("when one of another waits", x.send(0), NOT_POSSIBLE);
        flush(1);
        due("when what waited is heard", x.send(1), NOT_POSSIBLE);
        due("the log", x.count(0), 1);
    }

    @Sentence(of = "Promise 6", says = "or one is under way;")
    void promise6NotPossibleIfOneIsUnderWay() {
        write(0, 0, "ab");
        x.send(0);
        due("when one of two is", x.send(0), NOT_POSSIBLE);
        due("the log", x.count(0), 1);
        x.insert(1, 0, 5);
        due("another editor can", x.send(1), 2);
        x.hear(0);
        due("when it is heard", x.send(0), 3);
        x.hear(0);
        due("when another's is heard", x.send(0), NOT_POSSIBLE);
    }

    @Sentence(of = "Promise 6", says = "LIMIT_REACHED if the log has 60.")
    void promise6LimitIfTheLogHas60() {
        fillLog(0, 59);
        x.insert(1, 0, 7);
        x.insert(2, 0, 8);
        due("when it has 59", x.send(1), 60);
        due("when it has 60", x.send(2), LIMIT);
        due("it is not under way", x.editorOf(2, 2), 0);
        due("it waits", x.editorOf(2, 1), 1);
        due("the log", x.count(0), 60);
        x.undo();
        due("when it has 59 again", x.send(2), 60);
    }

    @Sentence(of = "Promise 7", says = "An editor hears the next change of the log.")
    void promise7HearsTheNextChange() {
        publish(0, 0, "abc");
        x.hear(1);
        x.hear(1);
        text(1, "ab");
        text(2, "");
        due("one is not heard", x.editorOf(1, 4), 1);
    }

    @Sentence(of = "Promise 7", says = "- `editor`: number of the editor")
    void promise7EditorIs0To2() {
        x.insert(1, 0, 0);
        x.send(1);
        for (int editor : NO_EDITORS) {
            due("editor " + editor, x.hear(editor), INVALID);
        }
        for (int editor = 0; editor < 3; editor++) {
            due("editor " + editor, x.hear(editor), editor == 1 ? 0 : 1);
        }
    }

    @Sentence(of = "Promise 7", says = "Returns the kind of what is done in the copy, 0: nothing")
    void promise7ReturnsTheKindOfWhatIsDone() {
        publish(0, 0, "ab");
        x.delete(0, 0);
        flush(0);
        due("put in", x.hear(1), 1);
        due("put in", x.hear(1), 1);
        due("taken out", x.hear(1), 2);
        x.hearAll(2);
        x.delete(0, 0);
        x.delete(1, 0);
        x.delete(2, 0);
        x.send(0);
        x.send(1);
        due("taken out there already", x.hear(2), 0);
        due("nothing in the log", x.hear(2), 0);
        text(2, "");
        due("the own one", x.hear(0), 0);
        due("nothing of another", x.hear(0), 0);
    }

    @Sentence(of = "Promise 7", says = "(also if it is the own one that was under way);")
    void promise7Returns0IfItIsTheOwnOne() {
        common(1, "ab");
        x.insert(0, 0, 25);
        x.send(0);
        due("put in", x.hear(0), 0);
        x.delete(0, 0);
        x.send(0);
        due("taken out", x.hear(0), 0);
        x.insert(0, 0, 25);
        x.takeBack(0);
        x.send(0);
        x.hear(0);
        x.send(0);
        due("taken back", x.hear(0), 0);
        text(0, "ab");
        due("none waits", x.editorOf(0, 1), 0);
    }

    @Sentence(of = "Promise 7", says = "INVALID_ARGUMENT;")
    void promise7InvalidIfThereIsNoSuchEditor() {
        due("editor 3, when all is heard", x.hear(3), INVALID);
        due("editor -1, when all is heard", x.hear(-1), INVALID);
    }

    @Sentence(of = "Promise 7", says = "NOT_POSSIBLE if all of the log is heard.")
    void promise7NotPossibleIfAllIsHeard() {
        due("of an empty log", x.hear(0), NOT_POSSIBLE);
        x.insert(0, 0, 0);
        due("of what is not sent", x.hear(0), NOT_POSSIBLE);
        x.send(0);
        due("the last one", x.hear(1), 1);
        due("behind the last one", x.hear(1), NOT_POSSIBLE);
        due("the own one", x.hear(0), 0);
        due("behind the own one", x.hear(0), NOT_POSSIBLE);
        text(1, "a");
        anew();
        fillLog(0, 60);
        for (int i = 0; i < 60; i++) {
            due("change " + i + " of 60", x.hear(1), 1 + i % 2);
        }
        due("behind the 60th", x.hear(1), NOT_POSSIBLE);
    }

    @Sentence(of = "Promise 8", says = "An editor hears all of the log.")
    void promise8HearsAll() {
        publish(0, 0, "abc");
        write(1, 0, "z");
        x.send(1);
        x.hearAll(1);
        text(1, "abcz");
        due("none is left", x.editorOf(1, 4), 0);
        due("none waits", x.editorOf(1, 1), 0);
        due("another has heard none", x.editorOf(2, 3), 0);
    }

    @Sentence(of = "Promise 8", says = "- `editor`: number of the editor")
    void promise8EditorIs0To2() {
        x.insert(1, 0, 0);
        x.send(1);
        for (int editor : NO_EDITORS) {
            due("editor " + editor, x.hearAll(editor), INVALID);
        }
        for (int editor = 0; editor < 3; editor++) {
            due("editor " + editor, x.hearAll(editor), 1);
        }
    }

    @Sentence(of = "Promise 8", says = "Returns how many changes are heard;")
    void promise8ReturnsHowManyAreHeard() {
        publish(0, 0, "abc");
        due("all", x.hearAll(1), 3);
        x.hear(2);
        due("all but one", x.hearAll(2), 2);
        x.delete(0, 0);
        x.delete(1, 0);
        x.send(0);
        x.send(1);
        due("the own one, and one that is nothing", x.hearAll(0), 2);
        anew();
        fillLog(2, 60);
        due("60", x.hearAll(0), 60);
        x.hear(1);
        due("59", x.hearAll(1), 59);
    }

    @Sentence(of = "Promise 8", says = "INVALID_ARGUMENT;")
    void promise8InvalidIfThereIsNoSuchEditor() {
        due("editor 3, when all is heard", x.hearAll(3), INVALID);
        due("editor -1, when all is heard", x.hearAll(-1), INVALID);
    }

    @Sentence(of = "Promise 8", says = "NOT_POSSIBLE if all of the log is heard.")
    void promise8NotPossibleIfAllIsHeard() {
        due("of an empty log", x.hearAll(0), NOT_POSSIBLE);
        publish(0, 0, "a");
        due("of what was heard by the editor itself", x.hearAll(0), NOT_POSSIBLE);
        due("of what was not", x.hearAll(1), 1);
        due("once more", x.hearAll(1), NOT_POSSIBLE);
    }

    /** Some of everything that clear forgets, of each editor. */
    private void muchThatIsCleared() {
        publish(0, 0, "abc");
        x.hear(1);
        write(1, 1, "yz");
        x.send(1);
        x.hearAll(2);
        write(2, 4, "w");
        x.mark(2, 1);
    }

    @Sentence(of = "Promise 9", says = "Begins anew: empty copies, an empty log, marks at 0, nothing "
            + "waits, can be taken back, or was written or heard.")
    void promise9BeginsAnew() {
        muchThatIsCleared();
        x.clear();
        for (int editor = 0; editor < 3; editor++) {
            text(editor, "");
            due("waiting", x.editorOf(editor, 1), 0);
            due("under way", x.editorOf(editor, 2), 0);
            due("heard", x.editorOf(editor, 3), 0);
            due("not heard", x.editorOf(editor, 4), 0);
            due("the mark", x.editorOf(editor, 5), 0);
            due("to be taken back", x.editorOf(editor, 6), 0);
            due("the same as the log", x.editorOf(editor, 7), 1);
            due("written", x.editorOf(editor, 8), 0);
            due("takeBack", x.takeBack(editor), NOT_POSSIBLE);
            due("send", x.send(editor), NOT_POSSIBLE);
            due("hear", x.hear(editor), NOT_POSSIBLE);
        }
        text(3, "");
        due("nobody put in", x.by(0), NOT_FOUND);
        due("no change", x.logOf(0, 0), NOT_FOUND);
        for (int what = 0; what <= 3; what++) {
            due("count " + what, x.count(what), 0);
        }
        end(0, "");
        due("insert then", x.insert(1, 0, 4), 1);
        due("send then", x.send(1), 1);
        inLog(0, 1, 0, 4, 1);
    }

    @Sentence(of = "Promise 9", says = "Begins anew: empty copies, an empty log, marks at 0, nothing "
            + "waits, can be taken back, or was written or heard.")
    void promise9LeavesTheHistoryAndTheTextOfCommands() {
        muchThatIsCleared();
        typed("s9");
        x.clear();
        due("the history", x.count(5), 4);
        due("the text", x.count(6), 2);
        due("undo", x.undo(), 3);
        text(1, "ayz");
        text(2, "abcyw");
        text(3, "abcy");
        due("under way again", x.editorOf(1, 2), 1);
        due("undo of the mark", x.undo(), 2);
        due("the mark", x.editorOf(2, 5), 5);
    }

    @Sentence(of = "Promise 9", says = "Returns how many changes the log had.")
    void promise9ReturnsHowManyTheLogHad() {
        due("of an empty log", x.clear(), 0);
        x.insert(0, 0, 0);
        due("of what waits", x.clear(), 0);
        publish(1, 0, "abc");
        due("of three", x.clear(), 3);
        due("of none again", x.clear(), 0);
        fillLog(2, 60);
        due("of 60", x.clear(), 60);
        due("the first one then", x.insert(2, 0, 0), 1);
        due("sent", x.send(2), 1);
    }
}
