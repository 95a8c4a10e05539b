/** In the end. */
final class InTheEndTests extends SentenceTests {
    @Sentence(of = "In the end", says = "In the end all changes that wait will be sent, and all be "
            + "heard:")
    void inTheEndAllThatWaitsIsSent() {
        end(0, "");
        end(1, "");
        write(0, 0, "ab");
        write(1, 0, "c");
        end(0, "abc");
        end(1, "abc");
        x.send(0);
        end(0, "abc");
        end(1, "abc");
        x.hearAll(1);
        x.delete(1, 0);
        end(0, "bc");
        end(1, "bc");
        due("what waits still waits", x.count(3), 4);
        due("the log is as it was", x.count(0), 1);
        text(1, "c");
    }

    @Sentence(of = "In the end", says = "and all be heard:")
    void inTheEndIsTheTextOfTheLogIfNothingWaits() {
        publish(1, 0, "abc");
        end(0, "abc");
        end(1, "abc");
        text(0, "");
        due("nothing was heard by it", x.editorOf(0, 3), 0);
    }

    /**
     * One takes out m, one puts in behind it, one ahead of it. If the first one goes first, both
     * letters come to one place, and that of the lower number stands first; otherwise they stand
     * as they were put in, ahead of m and behind it.
     */
    private void threeAroundOne(int takesOut, int putsInBehind, int putsInAhead) {
        anew();
        common(1, "m");
        x.delete(takesOut, 0);
        x.insert(putsInBehind, 1, 1);
        x.insert(putsInAhead, 0, 0);
    }

    @Sentence(of = "In the end", says = "by the order 0 the editor 0 sends and hears first")
    void inTheEndByOrder0TheEditor0GoesFirst() {
        threeAroundOne(0, 1, 2);
        end(0, "ba");
        threeAroundOne(1, 0, 2);
        end(0, "ab");
        threeAroundOne(2, 0, 1);
        end(0, "ab");
    }

    @Sentence(of = "In the end", says = "by the order 1 the other way round (2, 1, 0).")
    void inTheEndByOrder1TheEditor2GoesFirst() {
        threeAroundOne(2, 0, 1);
        end(1, "ba");
        threeAroundOne(1, 0, 2);
        end(1, "ab");
        threeAroundOne(0, 1, 2);
        end(1, "ab");
    }

    @Sentence(of = "In the end", says = "until no own change waits and all of the log is heard "
            + "(again and again:")
    void inTheEndAllSixAreSent() {
        write(0, 0, "abcdef");
        write(1, 0, "ghijkl");
        write(2, 0, "mnopqr");
        end(0, "abcdefghijklmnopqr");
        end(1, "abcdefghijklmnopqr");
        due("all copies are the same then", x.both(3), 1);
    }

    @Sentence(of = "In the end", says = "then all is heard), then the editor 1, then 2;")
    void inTheEndAllOfTheFirstEditorIsSentBeforeTheOthers() {
        // The m is taken out by the second change of the first editor, and still ahead of what
        // the others put in; otherwise it would be "ab".
        for (int order = 0; order <= 1; order++) {
            anew();
            common(1, "mx");
            x.delete(2 * order, 1);
            x.delete(2 * order, 0);
            x.insert(order == 0 ? 1 : 0, 1, 1);
            x.insert(order == 0 ? 2 : 1, 0, 0);
            end(order, "ba");
            end(1 - order, "ab");
        }
    }

    @Sentence(of = "In the end", says = "if the first one is not under way, it is sent;")
    void inTheEndOneUnderWayIsNotSentAgain() {
        write(0, 0, "ab");
        write(1, 0, "cd");
        x.send(0);
        x.send(1);
        due("length by order 0", x.both(0), 4);
        due("length by order 1", x.both(1), 4);
        end(0, "abcd");
        end(1, "abcd");
        x.hearAll(2);
        end(0, "abcd");
        x.hear(0);
        end(1, "abcd");
    }

    @Sentence(of = "In the end", says = "then all is heard), then the editor 1, then 2;")
    void inTheEndTheEditor2IsLast() {
        // The editors 1 and 2 have heard nothing; what they put in goes behind the letters of 0.
        publish(0, 0, "ab");
        x.insert(1, 0, 2);
        x.insert(2, 0, 3);
        end(0, "abcd");
        end(1, "abcd");
        threeAroundOne(1, 2, 0);
        end(0, "ab");
        end(1, "ab");
    }

    @Sentence(of = "In the end", says = "Then all hear all.")
    void inTheEndAllHearAll() {
        write(0, 0, "a");
        write(1, 0, "b");
        write(2, 0, "c");
        due("all copies are the same as the log's text", x.both(3), 1);
        threeAroundOne(0, 1, 2);
        due("all copies are the same by each order", x.both(3), 1);
        publish(1, 1, "x");
        due("also if none but the editor 1 heard", x.both(3), 1);
    }

    @Sentence(of = "In the end", says = "The text in the end is that of the log then.")
    void inTheEndOfNothingIsNothing() {
        common(0, "a");
        x.delete(0, 0);
        x.delete(1, 0);
        x.delete(2, 0);
        end(0, "");
        end(1, "");
        due("no letter", x.inTheEnd(0, 0), NOT_FOUND);
        due("its length", x.both(0), 0);
    }

    @Sentence(of = "In the end", says = "(Here the log may have more than 60 changes.)")
    void inTheEndTheLogMayHaveMoreThan60Changes() {
        fillLog(0, 54);
        publish(0, 0, "xxxxxx");
        due("the log is full", x.count(0), 60);
        write(0, 6, "aaaaaa");
        write(1, 0, "bbbbbb");
        write(2, 0, "cccccc");
        end(0, "xxxxxxaaaaaabbbbbbcccccc");
        end(1, "xxxxxxaaaaaabbbbbbcccccc");
        due("length by order 0", x.both(0), 24);
        due("length by order 1", x.both(1), 24);
        due("all copies are the same", x.both(3), 1);
        due("the log is as it was", x.count(0), 60);
    }
}
