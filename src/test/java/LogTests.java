/** What it is; and Terms: the log, copies, what is written, sent and heard. */
final class LogTests extends SentenceTests {
    @Sentence(of = "What it is", says = "Editors of one text: each one writes into an own copy at "
            + "once, sends what was written to a log, and hears what others wrote;")
    void whatItIsEachWritesIntoAnOwnCopyAtOnce() {
        x.insert(0, 0, 7);
        text(0, "h");
        text(1, "");
        text(3, "");
        x.send(0);
        text(3, "h");
        text(1, "");
        x.hear(1);
        text(1, "h");
        text(2, "");
    }

    @Sentence(of = "What it is", says = "so that all who heard the same have the same text")
    void whatItIsAllWhoHeardTheSameHaveTheSameText() {
        common(1, "abcd");
        x.insert(0, 2, 25);
        x.delete(1, 1);
        x.delete(1, 1);
        x.insert(2, 2, 24);
        x.delete(2, 1);
        for (int turn = 0; turn < 2; turn++) {
            for (int editor = 2; editor >= 0; editor--) {
                x.send(editor);
            }
            hearEverywhere();
        }
        for (int whose = 0; whose <= 3; whose++) {
            text(whose, "azyd");
        }
        due("nothing waits", x.count(4), 3);
    }

    @Sentence(of = "What it is", says = "An object is used for at most 512 calls after it has been "
            + "made;")
    void whatItIsThe512thCallIsAnswered() {
        fillLog(0, 60);
        due("so many calls", x.calls(), 180);
        for (int call = 181; call <= 240; call++) {
            x.type(' ');
        }
        for (int call = 241; call <= 500; call++) {
            due("call " + call, x.mark(1, 0), 0);
        }
        write(2, 0, "abcdef");
        due("call 507", x.send(2), LIMIT);
        due("call 508", x.hearAll(2), 60);
        due("call 509", x.both(0), 6);
        due("call 510", x.undo(), 3);
        due("call 511", x.fault(1), 1);
        due("call 512", x.takeBack(2), LIMIT);
        due("so many calls at the end", x.calls(), 512);
    }

    @Sentence(of = "Terms", says = "The log is a row of changes (at most 60), which all begin from "
            + "an empty text;")
    void termsTheLogHas60ChangesAtMost() {
        due("it has none", x.count(0), 0);
        text(3, "");
        fillLog(1, 59);
        x.insert(0, 0, 3);
        x.insert(2, 0, 4);
        due("the 60th", x.send(0), 60);
        due("a 61st", x.send(2), LIMIT);
        due("it has 60", x.count(0), 60);
        due("the first one", x.logOf(0, 0), 1);
        due("the last one", x.logOf(59, 3), 0);
        due("none behind it", x.logOf(60, 0), NOT_FOUND);
    }

    @Sentence(of = "Terms", says = "the text of the log is what comes of all of them, one behind "
            + "the other.")
    void termsTheTextOfTheLogComesOfAllOfThem() {
        x.insert(0, 0, 0);
        x.insert(1, 0, 1);
        text(3, "");
        x.send(1);
        text(3, "b");
        x.send(0);
        text(3, "ab");
        x.hearAll(1);
        x.delete(1, 0);
        text(3, "ab");
        x.send(1);
        text(3, "b");
        due("its length", x.count(1), 1);
        x.hearAll(1);
        x.delete(1, 0);
        x.send(1);
        text(3, "");
        due("its length, if it is empty again", x.count(1), 0);
    }

    @Sentence(of = "Terms", says = "An editor has heard some changes of the log, from the first one "
            + "on (none at first), and has an own copy of the text, a mark in it, and a row of own "
            + "changes that wait (at most 6):")
    void termsAnEditorHasHeardNoneAtFirst() {
        publish(0, 0, "ab");
        due("editor 0 heard", x.editorOf(0, 3), 2);
        for (int editor = 1; editor < 3; editor++) {
            due("heard", x.editorOf(editor, 3), 0);
            due("not heard", x.editorOf(editor, 4), 2);
            text(editor, "");
        }
        due("the first one is heard first", x.hear(1), 1);
        text(1, "a");
        due("heard", x.editorOf(1, 3), 1);
        due("not heard", x.editorOf(1, 4), 1);
    }

    @Sentence(of = "Terms", says = "a row of own changes that wait (at most 6):")
    void termsSixChangesWaitAtMost() {
        for (int i = 1; i <= 6; i++) {
            due("the change " + i, x.insert(1, 0, 0), i);
            due("waiting", x.editorOf(1, 1), i);
        }
        due("a seventh that puts in", x.insert(1, 0, 0), LIMIT);
        due("a seventh that takes out", x.delete(1, 0), LIMIT);
        due("a seventh that takes back", x.takeBack(1), LIMIT);
        due("waiting still", x.editorOf(1, 1), 6);
        for (int i = 0; i < 6; i++) {
            due("change " + i, x.waitingOf(1, i, 0), 1);
        }
        due("no seventh", x.waitingOf(1, 6, 0), NOT_FOUND);
    }

    @Sentence(of = "Terms", says = "they are done in the copy, but not heard in the log yet.")
    void termsWhatWaitsIsDoneInTheCopyButNotHeard() {
        write(0, 0, "ab");
        text(0, "ab");
        due("heard", x.editorOf(0, 3), 0);
        x.send(0);
        due("heard, when one is sent", x.editorOf(0, 3), 0);
        due("not heard", x.editorOf(0, 4), 1);
        due("both wait", x.editorOf(0, 1), 2);
        x.hear(0);
        due("heard then", x.editorOf(0, 3), 1);
        text(0, "ab");
    }

    @Sentence(of = "Terms", says = "The first one of them is under way if it was sent.")
    void termsTheFirstOneIsUnderWayIfItWasSent() {
        due("none waits", x.editorOf(0, 2), 0);
        write(0, 0, "ab");
        due("not sent", x.editorOf(0, 2), 0);
        x.send(0);
        due("sent", x.editorOf(0, 2), 1);
        due("of another editor", x.editorOf(1, 2), 0);
        x.insert(1, 0, 5);
        x.send(1);
        x.insert(0, 2, 2);
        x.delete(0, 0);
        due("still, when more is written", x.editorOf(0, 2), 1);
        x.hear(0);
        due("the second one was not sent", x.editorOf(0, 2), 0);
        due("three wait", x.editorOf(0, 1), 3);
        due("the second one is sent", x.send(0), 3);
        due("and under way", x.editorOf(0, 2), 1);
        due("another's is heard", x.hear(0), 1);
        due("still under way behind that", x.editorOf(0, 2), 1);
        due("it is heard", x.hear(0), 0);
        due("no more", x.editorOf(0, 2), 0);
    }

    @Sentence(of = "Terms", says = "To write: a change is done in the copy at once, and comes to "
            + "the end of the row of those that wait.")
    void termsToWriteIsDoneAtOnceAndWaitsAtTheEnd() {
        x.insert(0, 0, 4);
        text(0, "e");
        waits(0, 0, 1, 0, 4);
        x.insert(0, 0, 3);
        text(0, "de");
        waits(0, 0, 1, 0, 4);
        waits(0, 1, 1, 0, 3);
        x.delete(0, 1);
        text(0, "d");
        waits(0, 2, 2, 1, NOT_FOUND);
        x.takeBack(0);
        text(0, "de");
        waits(0, 3, 1, 1, 4);
        due("four wait", x.editorOf(0, 1), 4);
    }

    @Sentence(of = "Terms", says = "To send: the first one that waits is reshaped by each change of "
            + "the log that the editor has not heard, from the first one of these on, and comes to "
            + "the end of the log so.")
    void termsToSendIsReshapedFromTheFirstOneOn() {
        // By the first one z goes to place 0, which the second one then leaves as it is; by the
        // second one first it would go to place 2, and then to place 1.
        common(0, "abc");
        x.insert(1, 1, 25);
        x.delete(0, 0);
        x.insert(0, 1, 24);
        flush(0);
        due("place", x.wouldSend(1, 1), 0);
        due("at the end of the log", x.send(1), 6);
        inLog(5, 1, 0, 25, 1);
        text(3, "zbyc");
    }

    @Sentence(of = "Terms", says = "by each change of the log that the editor has not heard")
    void termsToSendIsReshapedByThoseNotHeardAlone() {
        publish(0, 0, "ab");
        x.hear(1);
        x.insert(1, 0, 25);
        due("behind none that was heard, before one that was not", x.send(1), 3);
        inLog(2, 1, 0, 25, 1);
        anew();
        publish(0, 0, "ab");
        x.insert(1, 0, 25);
        due("behind two that were not heard", x.send(1), 3);
        inLog(2, 1, 2, 25, 1);
        anew();
        common(0, "ab");
        x.insert(1, 0, 25);
        due("behind all, which were heard", x.send(1), 3);
        inLog(2, 1, 0, 25, 1);
    }

    @Sentence(of = "Terms", says = "(In the row it stays as it was, and is under way then.)")
    void termsWhatIsSentStaysInTheRowAsItWas() {
        publish(0, 0, "ab");
        x.insert(1, 0, 25);
        x.send(1);
        inLog(2, 1, 2, 25, 1);
        waits(1, 0, 1, 0, 25);
        due("it waits", x.editorOf(1, 1), 1);
        due("under way", x.editorOf(1, 2), 1);
        text(1, "z");
        anew();
        common(0, "a");
        x.delete(0, 0);
        x.delete(1, 0);
        x.send(0);
        x.send(1);
        due("nothing in the log", x.logOf(2, 0), 0);
        waits(1, 0, 2, 0, NOT_FOUND);
    }

    @Sentence(of = "Terms", says = "To hear: the next change of the log that the editor has not "
            + "heard is heard.")
    void termsToHearIsTheNextOneNotHeard() {
        publish(0, 0, "abc");
        for (int i = 1; i <= 3; i++) {
            due("heard", x.hear(2), 1);
            due("so many", x.editorOf(2, 3), i);
            text(2, "abc".substring(0, i));
        }
        due("no more", x.hear(2), NOT_POSSIBLE);
    }

    @Sentence(of = "Terms", says = "If it is the own one that is under way, it is gone from the "
            + "row.")
    void termsTheOwnOneUnderWayIsGoneFromTheRowWhenHeard() {
        write(0, 0, "ab");
        x.mark(0, 1);
        x.insert(1, 0, 25);
        x.send(1);
        x.send(0);
        x.hear(0);
        due("another's is not the own one", x.editorOf(0, 1), 2);
        text(0, "abz");
        due("the own one", x.hear(0), 0);
        due("one waits", x.editorOf(0, 1), 1);
        waits(0, 0, 1, 1, 1);
        text(0, "abz");
        due("the mark stays", x.editorOf(0, 5), 1);
        due("what can be taken back stays", x.editorOf(0, 6), 2);
        due("it was written all the same", x.editorOf(0, 8), 2);
        x.send(0);
        x.hear(0);
        due("none waits", x.editorOf(0, 1), 0);
        text(0, "abz");
    }

    @Sentence(of = "Terms", says = "Otherwise, let x be it; for each change w of the row, from the "
            + "first one on, w becomes w reshaped by x")
    void termsEachThatWaitsIsReshapedFromTheFirstOneOn() {
        // The b that is heard as taken out goes behind z, and then behind y; by y first it would
        // go nowhere, and y would be taken out.
        common(0, "abc");
        x.delete(0, 1);
        x.send(0);
        x.insert(1, 1, 25);
        x.insert(1, 2, 24);
        text(1, "azybc");
        due("it takes out", x.hear(1), 2);
        text(1, "azyc");
        waits(1, 0, 1, 1, 25);
        waits(1, 1, 1, 2, 24);
        due("two wait", x.editorOf(1, 1), 2);
    }

    @Sentence(of = "Terms", says = "w becomes w reshaped by x")
    void termsEachOfSixThatWaitIsReshaped() {
        x.insert(0, 0, 25);
        x.send(0);
        write(1, 0, "abcdef");
        x.hear(1);
        text(1, "zabcdef");
        for (int i = 0; i < 6; i++) {
            waits(1, i, 1, i + 1, i);
        }
    }

    @Sentence(of = "Terms", says = "and x becomes x reshaped by what w was ahead of that.")
    void termsWhatIsHeardIsReshapedByWhatWaitedAheadOfThat() {
        // The z waits at place 2, behind the b that is taken out, and goes to place 1 by that; by
        // this x would go behind z.
        common(0, "abc");
        x.delete(0, 1);
        x.send(0);
        x.insert(1, 2, 25);
        due("it takes out", x.hear(1), 2);
        text(1, "azc");
        waits(1, 0, 1, 1, 25);
    }

    @Sentence(of = "Terms", says = "What x is in the end is done in the copy.")
    void termsWhatItIsInTheEndIsDoneInTheCopy() {
        write(2, 0, "abc");
        x.insert(0, 0, 25);
        x.send(0);
        publish(1, 0, "y");
        due("ahead of the letters that wait", x.hear(2), 1);
        text(2, "zabc");
        due("ahead of them, but behind z", x.hear(2), 1);
        text(2, "zyabc");
        x.hearAll(0);
        x.delete(0, 1);
        x.send(0);
        due("taken out", x.hear(2), 2);
        text(2, "zabc");
        anew();
        common(0, "abc");
        x.delete(0, 1);
        x.send(0);
        x.delete(1, 1);
        due("nothing in the end", x.hear(1), 0);
        text(1, "ac");
    }
}
