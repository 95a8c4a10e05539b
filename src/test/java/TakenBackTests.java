/** What is taken back. */
final class TakenBackTests extends SentenceTests {
    @Sentence(of = "What is taken back", says = "Each editor has a row of at most 6 changes by "
            + "which own ones can be taken back:")
    void whatIsTakenBackIsOfSixChangesAtMost() {
        due("none at first", x.editorOf(0, 6), 0);
        for (int i = 1; i <= 8; i++) {
            publish(0, i - 1, "a");
            due("of " + i, x.editorOf(0, 6), Math.min(i, 6));
        }
        due("of another editor", x.editorOf(1, 6), 0);
        x.hearAll(1);
        due("what is heard is not an own one", x.editorOf(1, 6), 0);
        due("there is none", x.takeBack(1), NOT_POSSIBLE);
    }

    @Sentence(of = "What is taken back", says = "when the editor writes a change, all changes of "
            + "this row are reshaped by it")
    void whatIsTakenBackIsReshapedByWhatIsWritten() {
        x.insert(0, 0, 1);
        x.insert(0, 0, 0);
        x.insert(0, 2, 2);
        text(0, "abc");
        due("the c", x.takeBack(0), 2);
        waits(0, 3, 2, 2, NOT_FOUND);
        due("the a", x.takeBack(0), 2);
        waits(0, 4, 2, 0, NOT_FOUND);
        text(0, "b");
        due("the b, which stood at place 1", x.takeBack(0), 2);
        waits(0, 5, 2, 0, NOT_FOUND);
        text(0, "");
        anew();
        x.insert(0, 0, 0);
        x.delete(0, 0);
        due("the a again", x.takeBack(0), 1);
        due("what took the first a out is nothing", x.takeBack(0), 0);
        text(0, "a");
    }

    @Sentence(of = "What is taken back", says = "and then its opposite comes to the end of the row")
    void whatIsTakenBackIsTheLatestOneFirst() {
        write(0, 0, "abc");
        for (int i = 2; i >= 0; i--) {
            due("taken back", x.takeBack(0), 2);
            text(0, "abc".substring(0, i));
            due("left", x.editorOf(0, 6), i);
        }
        // Behind itself the opposite would be one place later, or nothing.
        anew();
        write(0, 0, "ab");
        x.insert(0, 0, 25);
        x.takeBack(0);
        text(0, "ab");
        x.delete(0, 0);
        x.takeBack(0);
        text(0, "ab");
    }

    @Sentence(of = "What is taken back", says = "(if there are 7 then, the first one is dropped):")
    void whatIsTakenBackIsDroppedFromTheFirstOneOn() {
        publish(0, 0, "abcdef");
        due("six", x.editorOf(0, 6), 6);
        publish(0, 6, "g");
        due("six of seven", x.editorOf(0, 6), 6);
        for (int i = 6; i >= 1; i--) {
            due("one of six", x.takeBack(0), 2);
            text(0, "abcdefg".substring(0, i));
            flush(0);
        }
        due("the first one was dropped", x.takeBack(0), NOT_POSSIBLE);
        text(0, "a");
    }

    @Sentence(of = "What is taken back", says = "of a letter that is put in that it is taken out "
            + "there")
    void whatIsTakenBackOfALetterPutInIsThatItIsTakenOut() {
        for (int place = 0; place <= 3; place++) {
            anew();
            common(1, "abc");
            x.insert(0, place, 25);
            due("at " + place, x.takeBack(0), 2);
            text(0, "abc");
            waits(0, 1, 2, place, NOT_FOUND);
        }
    }

    @Sentence(of = "What is taken back", says = "of one that is taken out that this letter is put "
            + "in there.")
    void whatIsTakenBackOfALetterTakenOutIsThatItIsPutIn() {
        for (int place = 0; place < 4; place++) {
            anew();
            common(1, "azbc");
            int letter = x.delete(0, place);
            due("at " + place, x.takeBack(0), 1);
            text(0, "azbc");
            waits(0, 1, 1, place, letter);
        }
    }

    @Sentence(of = "What is taken back", says = "When a change that is heard is done in the copy, "
            + "all are reshaped by it (as it is done there), too")
    void whatIsTakenBackIsReshapedByWhatIsHeardAsItIsDone() {
        // The y is put in at place 1 in the log, and at place 2 of this copy, behind z and m; as
        // it is in the log it would move m.
        common(1, "m");
        x.insert(1, 0, 25);
        x.insert(0, 1, 24);
        x.send(0);
        x.hear(1);
        text(1, "zmy");
        due("the z", x.takeBack(1), 2);
        text(1, "my");
        due("the m", x.takeBack(1), 2);
        text(1, "y");
    }

    @Sentence(of = "What is taken back", says = "all are reshaped by it")
    void whatIsTakenBackIsReshapedByWhatIsHeardAllSix() {
        publish(1, 0, "abcdef");
        publish(0, 0, "z");
        due("heard", x.hear(1), 1);
        text(1, "zabcdef");
        for (int i = 5; i >= 0; i--) {
            due("taken back", x.takeBack(1), 2);
            text(1, "z" + "abcdef".substring(0, i));
        }
    }

    @Sentence(of = "What is taken back", says = "(the opposites have the editor as theirs).")
    void whatIsTakenBackHasTheEditorAsItsEditor() {
        for (int editor = 0; editor < 3; editor++) {
            for (int other = 0; other < 3; other++) {
                if (other != editor) {
                    anew();
                    common(3 - editor - other, "abc");
                    x.delete(editor, 1);
                    x.send(editor);
                    hearEverywhere();
                    x.insert(other, 1, 25);
                    x.send(other);
                    x.hear(editor);
                    due("put in again", x.takeBack(editor), 1);
                    text(editor, other < editor ? "azbc" : "abzc");
                    x.send(editor);
                    due("its editor in the log", x.logOf(5, 3), editor);
                    due("who put it in", x.by(other < editor ? 2 : 1), editor);
                }
            }
        }
    }

    @Sentence(of = "What is taken back", says = "To take back: the last one of the row goes from "
            + "it, and is written as an own change")
    void whatIsTakenBackIsWrittenAsAnOwnChange() {
        common(1, "abc");
        x.insert(0, 1, 25);
        due("can be taken back", x.editorOf(0, 6), 1);
        due("taken back", x.takeBack(0), 2);
        due("none can be any more", x.editorOf(0, 6), 0);
        due("two were written", x.editorOf(0, 8), 2);
        due("two wait", x.editorOf(0, 1), 2);
        waits(0, 1, 2, 1, NOT_FOUND);
        text(0, "abc");
        text(3, "abc");
        flush(0);
        inLog(4, 2, 1, NOT_FOUND, 0);
        text(3, "abc");
    }

    @Sentence(of = "What is taken back", says = "(if it is nothing, the copy stays, and nothing is "
            + "written)")
    void whatIsTakenBackIsNotWrittenIfItIsNothing() {
        common(0, "abc");
        x.delete(1, 2);
        x.send(1);
        x.hear(0);
        x.mark(0, 1);
        due("three can be", x.editorOf(0, 6), 3);
        due("the c is out already", x.takeBack(0), 0);
        due("two can be", x.editorOf(0, 6), 2);
        text(0, "ab");
        due("none waits", x.editorOf(0, 1), 0);
        due("none was written by it", x.editorOf(0, 8), 3);
        due("the mark stays", x.editorOf(0, 5), 1);
        due("the others are as they were", x.takeBack(0), 2);
        text(0, "a");
    }

    @Sentence(of = "What is taken back", says = "but without an opposite;")
    void whatIsTakenBackHasNoOppositeItself() {
        write(0, 0, "ab");
        x.takeBack(0);
        due("one is left", x.editorOf(0, 6), 1);
        x.takeBack(0);
        due("none is left", x.editorOf(0, 6), 0);
        due("what was taken back can't be", x.takeBack(0), NOT_POSSIBLE);
        text(0, "");
        x.insert(0, 0, 25);
        due("a new one can be", x.takeBack(0), 2);
    }

    @Sentence(of = "What is taken back", says = "the others are reshaped by it.")
    void whatIsTakenBackReshapesTheOthers() {
        common(1, "m");
        x.insert(0, 1, 25);
        x.insert(0, 0, 24);
        text(0, "ymz");
        x.takeBack(0);
        text(0, "mz");
        due("the z is at place 1 again", x.takeBack(0), 2);
        waits(0, 3, 2, 1, NOT_FOUND);
        text(0, "m");
        anew();
        common(1, "abc");
        x.insert(0, 3, 25);
        x.delete(0, 0);
        due("the a again", x.takeBack(0), 1);
        due("the z is at place 3 again", x.takeBack(0), 2);
        text(0, "abc");
    }
}
