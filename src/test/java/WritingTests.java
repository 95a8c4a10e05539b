/** Promises 1 to 5: a new object, and what is written. */
final class WritingTests extends SentenceTests {
    @Sentence(of = "Promise 1", says = "Creates three editors with empty copies and an empty log.")
    void promise1ThreeEditorsWithEmptyCopies() {
        for (int editor = 0; editor < 3; editor++) {
            text(editor, "");
            for (int what = 0; what <= 8; what++) {
                due("editorOf " + what, x.editorOf(editor, what), what == 7 ? 1 : 0);
            }
            due("no change waits", x.waitingOf(editor, 0, 0), NOT_FOUND);
            due("nothing can be sent", x.send(editor), NOT_POSSIBLE);
            due("nothing can be heard", x.hear(editor), NOT_POSSIBLE);
            due("nothing can be taken back", x.takeBack(editor), NOT_POSSIBLE);
        }
        due("a fourth", x.editorOf(3, 0), INVALID);
    }

    @Sentence(of = "Promise 1", says = "Creates three editors with empty copies and an empty log.")
    void promise1AnEmptyLog() {
        text(3, "");
        due("no change", x.logOf(0, 0), NOT_FOUND);
        for (int what = 0; what <= 6; what++) {
            due("count " + what, x.count(what), what == 4 ? 3 : 0);
        }
        due("no text in the end", x.inTheEnd(0, 0), NOT_FOUND);
        for (int what = 0; what <= 3; what++) {
            due("both " + what, x.both(what), what < 2 ? 0 : 1);
        }
        due("no fault", x.fault(0), NOT_FOUND);
        due("no history", x.undo(), NOT_POSSIBLE);
    }

    @Sentence(of = "Promise 1", says = "`ReshapedTexts()`: Creates three editors")
    void promise1AnotherObjectHasItsOwn() {
        Texts first = x;
        first.insert(0, 0, 1);
        first.send(0);
        first.type('x');
        anew();
        due("its copy", x.editorOf(0, 0), 0);
        due("its log", x.count(0), 0);
        due("its text", x.count(6), 0);
        due("its history", x.count(5), 0);
        x.insert(1, 0, 2);
        due("the first one's copy", first.letter(0, 0), 1);
        due("the first one's other copy", first.editorOf(1, 0), 0);
    }

    @Sentence(of = "Promise 2", says = "An editor puts a letter in.")
    void promise2PutsALetterIn() {
        due("the first one", x.insert(1, 0, 1), 1);
        due("at the end", x.insert(1, 1, 3), 2);
        due("between", x.insert(1, 1, 2), 3);
        due("at the beginning", x.insert(1, 0, 0), 4);
        text(1, "abcd");
        text(0, "");
        text(3, "");
    }

    @Sentence(of = "Promise 2", says = "- `editor`: number of the editor")
    void promise2EditorIs0To2() {
        for (int editor : NO_EDITORS) {
            due("editor " + editor, x.insert(editor, 0, 0), INVALID);
        }
        for (int editor = 0; editor < 3; editor++) {
            due("editor " + editor, x.insert(editor, 0, 0), 1);
        }
    }

    @Sentence(of = "Promise 2", says = "- `place`: 0 to the length of the copy")
    void promise2PlaceIs0ToTheLength() {
        due("place 1 of an empty copy", x.insert(0, 1, 0), INVALID);
        due("place 0 of an empty copy", x.insert(0, 0, 0), 1);
        due("place 2 of one letter", x.insert(0, 2, 1), INVALID);
        due("place 1 of one letter", x.insert(0, 1, 1), 2);
        due("place -1", x.insert(0, -1, 1), INVALID);
        due("the least place", x.insert(0, LEAST, 1), INVALID);
        due("the most place", x.insert(0, MOST, 1), INVALID);
        due("place 0 of two letters", x.insert(0, 0, 2), 3);
        text(0, "cab");
        due("the length of another copy", x.insert(1, 1, 0), INVALID);
        publish(2, 0, "xyz");
        x.send(0);
        x.hearAll(0);
        due("place 7 of six that are put in and heard", x.insert(0, 7, 3), INVALID);
        due("place 6 of six that are put in and heard", x.insert(0, 6, 3), 7);
    }

    @Sentence(of = "Promise 2", says = "- `letter`: 0 to 25")
    void promise2LetterIs0To25() {
        due("letter 0", x.insert(0, 0, 0), 1);
        due("letter 25", x.insert(0, 1, 25), 2);
        due("letter -1", x.insert(0, 0, -1), INVALID);
        due("letter 26", x.insert(0, 0, 26), INVALID);
        due("the least letter", x.insert(0, 0, LEAST), INVALID);
        due("the most letter", x.insert(0, 0, MOST), INVALID);
        text(0, "az");
    }

    @Sentence(of = "Promise 2", says = "Returns the length of the copy then;")
    void promise2ReturnsTheLengthThen() {
        publish(1, 0, "ab");
        due("of a copy that heard none", x.insert(0, 0, 0), 1);
        x.hearAll(0);
        due("of a copy that heard two", x.insert(0, 0, 0), 4);
        x.delete(0, 0);
        due("when one was taken out", x.insert(0, 0, 0), 4);
    }

    @Sentence(of = "Promise 2", says = "INVALID_ARGUMENT if an argument is out of range;")
    void promise2InvalidIfAnyArgumentIs() {
        due("the editor", x.insert(3, 0, 0), INVALID);
        due("the place", x.insert(0, 1, 0), INVALID);
        due("the letter", x.insert(0, 0, 26), INVALID);
        due("all of them", x.insert(-1, -1, -1), INVALID);
        text(0, "");
        due("nothing was written", x.editorOf(0, 8), 0);
    }

    @Sentence(of = "Promise 2", says = "LIMIT_REACHED if the copy has 30 letters or more")
    void promise2LimitIfTheCopyHas30Letters() {
        publish(1, 0, "abcdefghijklmnopqrstuvwxyzabc");
        due("29 letters", x.editorOf(1, 0), 29);
        due("into 29", x.insert(1, 29, 3), 30);
        due("into 30 at the beginning", x.insert(1, 0, 3), LIMIT);
        due("into 30 at the end", x.insert(1, 30, 3), LIMIT);
        x.delete(1, 0);
        due("into 29 again", x.insert(1, 0, 0), 30);
        due("into the copy of another editor", x.insert(2, 0, 3), 1);
    }

    @Sentence(of = "Promise 2", says = "LIMIT_REACHED if the copy has 30 letters or more")
    void promise2LimitIfTheCopyHasMoreThan30Letters() {
        publish(1, 0, "abcdefghijklmnopqrstuvwxyzabcd");
        write(0, 0, "zy");
        flush(0);
        x.hear(1);
        due("31 letters", x.editorOf(1, 0), 31);
        due("into 31", x.insert(1, 0, 3), LIMIT);
        x.hear(1);
        due("into 32", x.insert(1, 32, 3), LIMIT);
        x.delete(1, 0);
        x.delete(1, 0);
        due("into 30", x.insert(1, 0, 3), LIMIT);
        x.delete(1, 0);
        due("into 29", x.insert(1, 0, 3), 30);
        due("the copy that heard 32", x.editorOf(0, 0), 32);
        due("into that", x.insert(0, 0, 3), LIMIT);
    }

    @Sentence(of = "Promise 2", says = "or 6 changes wait.")
    void promise2LimitIf6ChangesWait() {
        write(0, 0, "abcde");
        due("when 5 wait", x.insert(0, 5, 5), 6);
        due("when 6 wait", x.insert(0, 6, 6), LIMIT);
        x.send(0);
        due("when the first of 6 is under way", x.insert(0, 6, 6), LIMIT);
        x.hear(0);
        due("when 5 wait again", x.insert(0, 6, 6), 7);
        due("when 6 wait again", x.insert(0, 7, 7), LIMIT);
        due("of another editor", x.insert(1, 0, 0), 1);
    }

    @Sentence(of = "Promise 2", says = "or 6 changes wait.")
    void promise2LimitAlsoIfSomeThatWaitAreNothing() {
        common(1, "abcdef");
        for (int i = 0; i < 6; i++) {
            x.delete(0, 0);
        }
        x.delete(2, 0);
        x.send(2);
        x.hear(0);
        due("one is nothing", x.waitingOf(0, 0, 0), 0);
        due("it waits", x.insert(0, 0, 0), LIMIT);
    }

    @Sentence(of = "Promise 3", says = "An editor takes a letter out.")
    void promise3TakesALetterOut() {
        write(2, 0, "abcd");
        due("between", x.delete(2, 1), 1);
        due("the last one", x.delete(2, 2), 3);
        text(2, "ac");
        text(3, "");
    }

    @Sentence(of = "Promise 3", says = "- `editor`: number of the editor")
    void promise3EditorIs0To2() {
        common(0, "a");
        for (int editor : NO_EDITORS) {
            due("editor " + editor, x.delete(editor, 0), INVALID);
        }
        for (int editor = 0; editor < 3; editor++) {
            due("editor " + editor, x.delete(editor, 0), 0);
        }
    }

    @Sentence(of = "Promise 3", says = "- `place`: 0 to the length of the copy less 1")
    void promise3PlaceIs0ToTheLengthLess1() {
        due("place 0 of an empty copy", x.delete(0, 0), INVALID);
        due("place -1 of an empty copy", x.delete(0, -1), INVALID);
        write(0, 0, "abc");
        due("the length", x.delete(0, 3), INVALID);
        due("-1", x.delete(0, -1), INVALID);
        due("the least place", x.delete(0, LEAST), INVALID);
        due("the most place", x.delete(0, MOST), INVALID);
        due("the length less 1", x.delete(0, 2), 2);
        due("that place again", x.delete(0, 2), INVALID);
        due("0", x.delete(0, 0), 0);
        due("0 of one letter", x.delete(0, 0), 1);
        text(0, "");
        due("the length of another copy", x.delete(1, 0), INVALID);
    }

    @Sentence(of = "Promise 3", says = "Returns the letter;")
    void promise3ReturnsTheLetter() {
        write(0, 0, "azm");
        due("z", x.delete(0, 1), 25);
        due("m", x.delete(0, 1), 12);
        due("a", x.delete(0, 0), 0);
    }

    @Sentence(of = "Promise 3", says = "INVALID_ARGUMENT if an argument is out of range;")
    void promise3InvalidIfAnyArgumentIs() {
        write(0, 0, "a");
        due("the editor", x.delete(3, 0), INVALID);
        due("the place", x.delete(0, 1), INVALID);
        due("both", x.delete(-1, -1), INVALID);
        text(0, "a");
    }

    @Sentence(of = "Promise 3", says = "LIMIT_REACHED if 6 changes wait.")
    void promise3LimitIf6ChangesWait() {
        write(0, 0, "abcde");
        due("when 5 wait", x.delete(0, 0), 0);
        due("when 6 wait", x.delete(0, 0), LIMIT);
        x.send(0);
        due("when the first of 6 is under way", x.delete(0, 0), LIMIT);
        x.hear(0);
        due("when 5 wait again", x.delete(0, 0), 1);
        due("when 6 wait again", x.delete(0, 0), LIMIT);
        text(0, "cde");
    }

    @Sentence(of = "Promise 3", says = "LIMIT_REACHED if 6 changes wait.")
    void promise3NoLimitOfACopyOf30LettersOrMore() {
        publish(1, 0, "abcdefghijklmnopqrstuvwxyzabcd");
        due("of 30 letters", x.delete(1, 29), 3);
        write(0, 0, "zyx");
        flush(0);
        x.send(1);
        x.hearAll(1);
        due("of 32 letters", x.delete(1, 31), 2);
    }

    @Sentence(of = "Promise 4", says = "An editor takes the latest own change back that can be.")
    void promise4TakesTheLatestOwnChangeBack() {
        write(0, 0, "ab");
        publish(1, 0, "x");
        x.hear(0);
        text(0, "abx");
        due("the b, though x was heard later", x.takeBack(0), 2);
        text(0, "ax");
        due("the a", x.takeBack(0), 2);
        text(0, "x");
    }

    @Sentence(of = "Promise 4", says = "- `editor`: number of the editor")
    void promise4EditorIs0To2() {
        for (int editor = 0; editor < 3; editor++) {
            x.insert(editor, 0, editor);
        }
        for (int editor : NO_EDITORS) {
            due("editor " + editor, x.takeBack(editor), INVALID);
        }
        for (int editor = 0; editor < 3; editor++) {
            due("editor " + editor, x.takeBack(editor), 2);
            text(editor, "");
        }
    }

    @Sentence(of = "Promise 4", says = "Returns the kind of the change that is written by it, 0 if "
            + "it became nothing;")
    void promise4ReturnsTheKindOfWhatIsWritten() {
        x.insert(0, 0, 3);
        due("of a letter put in", x.takeBack(0), 2);
        x.insert(0, 0, 3);
        x.delete(0, 0);
        due("of a letter taken out", x.takeBack(0), 1);
        due("of one that became nothing", x.takeBack(0), 0);
        due("none is left", x.editorOf(0, 6), 0);
        text(0, "d");
    }

    @Sentence(of = "Promise 4", says = "INVALID_ARGUMENT;")
    void promise4InvalidIfThereIsNoSuchEditor() {
        due("editor 3, when none can be taken back", x.takeBack(3), INVALID);
        write(2, 0, "abcdef");
        due("editor 3, when 6 wait of another", x.takeBack(3), INVALID);
    }

    @Sentence(of = "Promise 4", says = "NOT_POSSIBLE if there is none;")
    void promise4NotPossibleIfThereIsNone() {
        due("of a new one", x.takeBack(0), NOT_POSSIBLE);
        publish(1, 0, "a");
        x.hear(0);
        due("of what another wrote", x.takeBack(0), NOT_POSSIBLE);
        x.insert(0, 0, 1);
        x.takeBack(0);
        due("of what was taken back", x.takeBack(0), NOT_POSSIBLE);
        x.clear();
        due("of what was cleared", x.takeBack(1), NOT_POSSIBLE);
    }

    @Sentence(of = "Promise 4", says = "LIMIT_REACHED if 6 changes wait")
    void promise4LimitIf6ChangesWait() {
        write(0, 0, "abcde");
        due("when 5 wait", x.takeBack(0), 2);
        due("when 6 wait", x.takeBack(0), LIMIT);
        due("it can be taken back still", x.editorOf(0, 6), 4);
        text(0, "abcd");
        x.send(0);
        due("when the first of 6 is under way", x.takeBack(0), LIMIT);
        x.hear(0);
        due("when 5 wait again", x.takeBack(0), 2);
        text(0, "abc");
    }

    @Sentence(of = "Promise 4", says = "(also if it became nothing)")
    void promise4LimitIf6ChangesWaitAlsoIfItBecameNothing() {
        x.insert(0, 0, 3);
        x.delete(0, 0);
        x.takeBack(0);
        x.insert(0, 0, 4);
        x.takeBack(0);
        due("5 wait", x.editorOf(0, 1), 5);
        due("of nothing, when 5 wait", x.takeBack(0), 0);
        x.undo();
        x.insert(0, 1, 5);
        due("6 wait", x.editorOf(0, 1), 6);
        x.send(0);
        x.hear(0);
        x.takeBack(0);
        due("6 wait again", x.editorOf(0, 1), 6);
        due("of nothing, when 6 wait", x.takeBack(0), LIMIT);
        due("it is still there", x.editorOf(0, 6), 1);
        x.send(0);
        x.hear(0);
        due("of nothing, when 5 wait again", x.takeBack(0), 0);
        due("it is gone", x.editorOf(0, 6), 0);
    }

    /** 30 letters, of which one that editor 0 took out is replaced by those of editor 2. */
    private void thirtyLettersOneTakenOut(int ofAnother) {
        publish(0, 0, "abcdefghijklmnopqrstuvwxyzabcd");
        x.delete(0, 29);
        flush(0);
        write(2, 0, "xyz".substring(0, ofAnother));
        flush(2);
        x.hearAll(0);
    }

    @Sentence(of = "Promise 4", says = "or it would put a letter into a copy with 30 or more.")
    void promise4LimitIfItPutsALetterInto30() {
        thirtyLettersOneTakenOut(0);
        due("into 29", x.takeBack(0), 1);
        due("30 letters", x.editorOf(0, 0), 30);
        anew();
        thirtyLettersOneTakenOut(1);
        due("30 letters by another", x.editorOf(0, 0), 30);
        due("into 30", x.takeBack(0), LIMIT);
        due("it can be taken back still", x.editorOf(0, 6), 6);
        due("none waits", x.editorOf(0, 1), 0);
        x.delete(0, 0);
        due("into 29: the one just taken out", x.takeBack(0), 1);
        due("into 30: the first one", x.takeBack(0), LIMIT);
    }

    @Sentence(of = "Promise 4", says = "or it would put a letter into a copy with 30 or more.")
    void promise4LimitIfItPutsALetterIntoMoreThan30() {
        thirtyLettersOneTakenOut(3);
        due("32 letters", x.editorOf(0, 0), 32);
        due("into 32", x.takeBack(0), LIMIT);
    }

    @Sentence(of = "Promise 4", says = "it would put a letter into a copy with 30")
    void promise4NoLimitOfThatKindIfItTakesOutOrIsNothing() {
        publish(0, 0, "abcdefghijklmnopqrstuvwxyzabcd");
        due("taken out of 30", x.takeBack(0), 2);
        flush(0);
        write(2, 0, "wxyz");
        flush(2);
        x.delete(2, 28);
        flush(2);
        x.hearAll(0);
        due("32 letters", x.editorOf(0, 0), 32);
        due("of one that became nothing, of 32", x.takeBack(0), 0);
        due("taken out of 32", x.takeBack(0), 2);
    }

    @Sentence(of = "Promise 5", says = "Sets the mark of an editor.")
    void promise5SetsTheMark() {
        write(0, 0, "abc");
        write(1, 0, "xyz");
        x.mark(0, 1);
        due("it is there", x.editorOf(0, 5), 1);
        due("another's is where it was", x.editorOf(1, 5), 3);
    }

    @Sentence(of = "Promise 5", says = "- `editor`: number of the editor")
    void promise5EditorIs0To2() {
        for (int editor : NO_EDITORS) {
            due("editor " + editor, x.mark(editor, 0), INVALID);
        }
        for (int editor = 0; editor < 3; editor++) {
            due("editor " + editor, x.mark(editor, 0), 0);
        }
    }

    @Sentence(of = "Promise 5", says = "- `place`: 0 to the length of the copy")
    void promise5PlaceIs0ToTheLength() {
        due("0 of an empty copy", x.mark(0, 0), 0);
        due("1 of an empty copy", x.mark(0, 1), INVALID);
        write(0, 0, "ab");
        due("the length", x.mark(0, 2), 2);
        due("the length and 1", x.mark(0, 3), INVALID);
        due("0", x.mark(0, 0), 2);
        due("-1", x.mark(0, -1), INVALID);
        due("the least place", x.mark(0, LEAST), INVALID);
        due("the most place", x.mark(0, MOST), INVALID);
        due("it is where it was", x.editorOf(0, 5), 0);
        due("the length of another copy", x.mark(1, 1), INVALID);
    }

    @Sentence(of = "Promise 5", says = "Returns where it was;")
    void promise5ReturnsWhereItWas() {
        write(0, 0, "abcd");
        due("moved by four letters", x.mark(0, 2), 4);
        due("set", x.mark(0, 2), 2);
        due("set to the same place", x.mark(0, 0), 2);
        due("set to 0", x.mark(0, 4), 0);
    }

    @Sentence(of = "Promise 5", says = "INVALID_ARGUMENT if an argument is out of range.")
    void promise5InvalidIfAnyArgumentIs() {
        due("the editor", x.mark(3, 0), INVALID);
        due("the place", x.mark(0, 1), INVALID);
        due("both", x.mark(-1, -1), INVALID);
        due("it is where it was", x.editorOf(0, 5), 0);
    }
}
