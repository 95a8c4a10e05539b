/** Marks. */
final class MarkTests extends SentenceTests {
    @Sentence(of = "Marks", says = "The mark of an editor is a place of its copy, 0 to its length.")
    void marksAre0ToTheLength() {
        due("of an empty copy", x.editorOf(0, 5), 0);
        due("to 0 of an empty copy", x.mark(0, 0), 0);
        due("behind an empty copy", x.mark(0, 1), INVALID);
        write(0, 0, "abc");
        due("to 0", x.mark(0, 0), 3);
        due("to the length", x.mark(0, 3), 0);
        due("behind the length", x.mark(0, 4), INVALID);
        due("-1", x.mark(0, -1), INVALID);
        due("where it is", x.editorOf(0, 5), 3);
        due("of another editor", x.editorOf(1, 5), 0);
    }

    @Sentence(of = "Marks", says = "The mark of an editor is a place of its copy, 0 to its length.")
    void marksAreToTheLengthAlsoOfMoreThan30Letters() {
        write(1, 0, "uvwxyz");
        publish(0, 0, "abcdefghijklmnopqrstuvwxyzabcd");
        x.hearAll(1);
        due("behind 36 letters", x.editorOf(1, 5), 36);
        due("to 37 of 36", x.mark(1, 37), INVALID);
        due("to 36 of 36", x.mark(1, 36), 36);
        due("to 35", x.mark(1, 35), 36);
        due("from 35", x.mark(1, 0), 35);
    }

    private void markedAt2() {
        anew();
        common(1, "abcd");
        x.mark(0, 2);
    }

    /** The mark 2 of editor 0 in four letters, when one is put in there by itself. */
    private int whenPutIn(int place) {
        markedAt2();
        x.insert(0, place, 25);
        return x.editorOf(0, 5);
    }

    private int whenTakenOut(int place) {
        markedAt2();
        x.delete(0, place);
        return x.editorOf(0, 5);
    }

    @Sentence(of = "Marks", says = "When a letter is put in at a place that is at most the mark")
    void marksAreOneMoreWhenALetterIsPutInAtMostThere() {
        due("at 0", whenPutIn(0), 3);
        due("just below", whenPutIn(1), 3);
        due("at the mark", whenPutIn(2), 3);
        due("just behind", whenPutIn(3), 2);
        due("at the end", whenPutIn(4), 2);
        anew();
        x.insert(0, 0, 1);
        due("in an empty copy", x.editorOf(0, 5), 1);
        x.insert(0, 1, 1);
        due("at the end, at the mark", x.editorOf(0, 5), 2);
    }

    @Sentence(of = "Marks", says = "by any editor, the mark is one more;")
    void marksAreOneMoreByAnyEditor() {
        for (int editor = 0; editor < 3; editor++) {
            for (int place = 0; place <= 4; place++) {
                markedAt2();
                x.insert(editor, place, 25);
                x.send(editor);
                x.hear(0);
                due("of editor " + editor + " at " + place, x.editorOf(0, 5), place <= 2 ? 3 : 2);
                due("the mark of 1", x.editorOf(1, 5), editor == 1 ? 5 : 4);
                due("the mark of 2", x.editorOf(2, 5), editor == 2 ? 5 : 4);
            }
        }
    }

    @Sentence(of = "Marks", says = "by any editor, the mark is one more;")
    void marksFollowTheLetterAsItIsPutIntoThisCopy() {
        // It is at place 1 in the log, but at place 3 of this copy, behind two that wait.
        markedAt2();
        x.insert(0, 0, 24);
        x.insert(0, 0, 24);
        x.mark(0, 2);
        x.insert(1, 1, 25);
        x.send(1);
        x.hear(0);
        text(0, "yyazbcd");
        due("the mark stays", x.editorOf(0, 5), 2);
    }

    @Sentence(of = "Marks", says = "when one is taken out at a place below the mark, it is one "
            + "less.")
    void marksAreOneLessWhenALetterIsTakenOutBelow() {
        due("at 0", whenTakenOut(0), 1);
        due("just below", whenTakenOut(1), 1);
        due("at the mark", whenTakenOut(2), 2);
        due("behind", whenTakenOut(3), 2);
        anew();
        x.insert(0, 0, 1);
        x.mark(0, 0);
        x.delete(0, 0);
        due("at 0, of the last letter", x.editorOf(0, 5), 0);
        x.insert(0, 0, 1);
        x.delete(0, 0);
        due("at the length, of the last letter", x.editorOf(0, 5), 0);
    }

    @Sentence(of = "Marks", says = "when one is taken out at a place below the mark, it is one "
            + "less.")
    void marksAreOneLessByAnyEditor() {
        for (int editor = 0; editor < 3; editor++) {
            for (int place = 0; place < 4; place++) {
                markedAt2();
                x.delete(editor, place);
                x.send(editor);
                x.hear(0);
                due("of editor " + editor + " at " + place, x.editorOf(0, 5), place < 2 ? 1 : 2);
            }
        }
    }

    @Sentence(of = "Marks", says = "when one is taken out at a place below the mark, it is one "
            + "less.")
    void marksAreMovedByWhatIsTakenBackToo() {
        markedAt2();
        x.delete(0, 1);
        due("taken out", x.editorOf(0, 5), 1);
        due("put in again at the mark", x.takeBack(0), 1);
        due("one more", x.editorOf(0, 5), 2);
        x.insert(0, 1, 25);
        due("put in", x.editorOf(0, 5), 3);
        due("taken out again below the mark", x.takeBack(0), 2);
        due("one less", x.editorOf(0, 5), 2);
        x.insert(0, 3, 25);
        x.takeBack(0);
        due("taken out again behind the mark", x.editorOf(0, 5), 2);
    }

    @Sentence(of = "Marks", says = "When a letter is put in at a place that is at most the mark")
    void marksStayWhenNothingIsDone() {
        markedAt2();
        x.delete(0, 0);
        x.delete(1, 0);
        x.send(1);
        due("one less by the own one", x.editorOf(0, 5), 1);
        due("nothing is heard", x.hear(0), 0);
        due("the mark stays", x.editorOf(0, 5), 1);
        x.send(0);
        due("the own one is heard", x.hear(0), 0);
        due("the mark stays", x.editorOf(0, 5), 1);
    }
}
