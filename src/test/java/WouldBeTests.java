/** Promises 16 to 19: what would be, and undo. */
final class WouldBeTests extends SentenceTests {
    @Sentence(of = "Promise 16", says = "Returns a letter of the text in the end.")
    void promise16ALetterOfTheTextInTheEnd() {
        write(0, 0, "az");
        write(1, 0, "m");
        for (int order = 0; order <= 1; order++) {
            due("0", x.inTheEnd(order, 0), 0);
            due("1", x.inTheEnd(order, 1), 25);
            due("2", x.inTheEnd(order, 2), 12);
        }
        due("nothing was sent by it", x.count(0), 0);
        due("nothing was heard by it", x.editorOf(0, 0), 2);
        due("nothing was recorded by it", x.count(5), 3);
    }

    @Sentence(of = "Promise 16", says = "- `order`: 0 or 1")
    void promise16OrderIs0Or1() {
        common(1, "m");
        x.delete(0, 0);
        x.insert(1, 1, 0);
        x.insert(2, 0, 2);
        due("order 0", x.inTheEnd(0, 0), 0);
        due("order 1", x.inTheEnd(1, 0), 2);
        for (int order : new int[] {-1, 2, LEAST, MOST}) {
            due("order " + order, x.inTheEnd(order, 0), INVALID);
        }
    }

    @Sentence(of = "Promise 16", says = "- `place`: 0 or more")
    void promise16PlaceIs0OrMore() {
        write(0, 0, "abcdef");
        for (int order = 0; order <= 1; order++) {
            due("place 0", x.inTheEnd(order, 0), 0);
            due("place 5", x.inTheEnd(order, 5), 5);
            due("place -1", x.inTheEnd(order, -1), INVALID);
            due("the least place", x.inTheEnd(order, LEAST), INVALID);
        }
    }

    @Sentence(of = "Promise 16", says = "Returns the letter;")
    void promise16ReturnsTheLetter0To25() {
        x.insert(2, 0, 0);
        x.insert(2, 1, 25);
        due("a", x.inTheEnd(0, 0), 0);
        due("z", x.inTheEnd(1, 1), 25);
    }

    @Sentence(of = "Promise 16", says = "INVALID_ARGUMENT if order is out of range or place is "
            + "negative;")
    void promise16InvalidIfOrderOrPlaceIs() {
        due("order", x.inTheEnd(2, 0), INVALID);
        due("place", x.inTheEnd(0, -1), INVALID);
        due("both", x.inTheEnd(-1, -1), INVALID);
    }

    @Sentence(of = "Promise 16", says = "NOT_FOUND if there are not so many.")
    void promise16NotFoundIfThereAreNotSoMany() {
        for (int order = 0; order <= 1; order++) {
            anew();
            due("0 of none", x.inTheEnd(order, 0), NOT_FOUND);
            write(0, 0, "uvwxyz");
            write(1, 0, "uvwxyz");
            publish(2, 0, "abcdefghijklmnopqrstuvwxyzabcd");
            due("41 of 42", x.inTheEnd(order, 41), 3);
            due("42 of 42", x.inTheEnd(order, 42), NOT_FOUND);
            due("the most place", x.inTheEnd(order, MOST), NOT_FOUND);
            x.clear();
            write(0, 0, "a");
            x.delete(0, 0);
            due("0, when all is taken out", x.inTheEnd(order, 0), NOT_FOUND);
        }
    }

    @Sentence(of = "Promise 17", says = "Tells about both orders.")
    void promise17TellsAboutBothOrders() {
        common(1, "m");
        x.delete(0, 0);
        x.insert(1, 1, 0);
        x.insert(2, 0, 2);
        due("length by order 0", x.both(0), 2);
        due("length by order 1", x.both(1), 2);
        due("not the same", x.both(2), 0);
        due("all copies are, by each order", x.both(3), 1);
        due("nothing was sent by it", x.count(0), 1);
        due("nothing was heard by it", x.editorOf(1, 0), 2);
    }

    @Sentence(of = "Promise 17", says = "- `what`: 0: the length of the text in the end by the order "
            + "0; 1: that by the order 1;")
    void promise17LengthsOfTheTextsInTheEnd() {
        for (int order = 0; order <= 1; order++) {
            anew();
            due("of nothing", x.both(order), 0);
            write(0, 0, "uvwxyz");
            write(1, 0, "uvwxyz");
            due("of what waits", x.both(order), 12);
            publish(2, 0, "abcdefghijklmnopqrstuvwxyzabcd");
            due("of what waits and of the log", x.both(order), 42);
            x.delete(2, 0);
            due("less one that is taken out", x.both(order), 41);
        }
    }

    @Sentence(of = "Promise 17", says = "2: 1 if both texts are the same, otherwise 0;")
    void promise17BothTextsAreTheSame() {
        due("of nothing", x.both(2), 1);
        common(1, "m");
        x.delete(1, 0);
        x.insert(2, 1, 0);
        due("two editors", x.both(2), 1);
        x.insert(0, 0, 2);
        due("three editors, the one between takes out", x.both(2), 1);
        anew();
        common(1, "m");
        x.insert(0, 1, 0);
        x.insert(1, 0, 2);
        x.delete(2, 0);
        due("three editors, the last one takes out", x.both(2), 0);
        x.undo();
        due("when it does not", x.both(2), 1);
        // The same two letters at both places are one text, though by others.
        anew();
        common(1, "m");
        x.delete(0, 0);
        x.insert(1, 1, 2);
        x.insert(2, 0, 2);
        due("the same letters", x.both(2), 1);
    }

    @Sentence(of = "Promise 17", says = "3: 1 if by both orders all three copies are the same as the "
            + "text of the log in the end, otherwise 0")
    void promise17AllCopiesAreTheSameInTheEnd() {
        due("of nothing", x.both(3), 1);
        write(0, 0, "abcdef");
        write(1, 0, "ghijkl");
        publish(2, 0, "mnopqr");
        due("of what is put in", x.both(3), 1);
        anew();
        common(1, "m");
        x.delete(0, 0);
        x.insert(1, 1, 0);
        x.insert(2, 0, 2);
        due("of texts that are not the same by both orders", x.both(3), 1);
        x.send(2);
        x.delete(1, 0);
        x.send(1);
        due("with two under way", x.both(3), 1);
    }

    @Sentence(of = "Promise 17", says = "Returns the number;")
    void promise17ReturnsTheNumber() {
        x.insert(0, 0, 0);
        int[] wants = {1, 1, 1, 1};
        for (int what = 0; what <= 3; what++) {
            due("what " + what, x.both(what), wants[what]);
        }
    }

    @Sentence(of = "Promise 17", says = "INVALID_ARGUMENT if what is out of range.")
    void promise17InvalidIfWhatIsOutOfRange() {
        for (int what : new int[] {-1, 4, LEAST, MOST}) {
            due("what " + what, x.both(what), INVALID);
        }
    }

    @Sentence(of = "Promise 18", says = "Returns what the first change that waits of an editor would "
            + "be in the log if it was sent now.")
    void promise18WhatTheFirstOneWouldBeIfSent() {
        publish(0, 0, "ab");
        x.insert(1, 0, 25);
        x.insert(1, 0, 24);
        due("kind", x.wouldSend(1, 0), 1);
        due("place", x.wouldSend(1, 1), 2);
        waits(1, 0, 1, 0, 25);
        due("it is not sent by it", x.count(0), 2);
        due("it is not under way by it", x.editorOf(1, 2), 0);
        x.hear(1);
        due("place, when one is heard", x.wouldSend(1, 1), 2);
        x.send(1);
        inLog(2, 1, 2, 25, 1);
    }

    @Sentence(of = "Promise 18", says = "if it was sent now.")
    void promise18AlsoToldIfTheLogHas60() {
        fillLog(0, 60);
        x.insert(1, 0, 3);
        due("kind", x.wouldSend(1, 0), 1);
        due("place", x.wouldSend(1, 1), 0);
    }

    @Sentence(of = "Promise 18", says = "- `editor`: number of the editor")
    void promise18EditorIs0To2() {
        for (int editor = 0; editor < 3; editor++) {
            write(editor, 0, "a");
        }
        for (int editor : NO_EDITORS) {
            due("editor " + editor, x.wouldSend(editor, 0), INVALID);
        }
        for (int editor = 0; editor < 3; editor++) {
            due("editor " + editor, x.wouldSend(editor, 0), 1);
        }
    }

    @Sentence(of = "Promise 18", says = "- `what`: 0: its kind; 1: its place")
    void promise18WhatIsItsKindOrPlace() {
        common(0, "abc");
        x.delete(1, 2);
        due("its kind", x.wouldSend(1, 0), 2);
        due("its place", x.wouldSend(1, 1), 2);
        publish(0, 3, "d");
        x.delete(0, 0);
        flush(0);
        due("its kind", x.wouldSend(1, 0), 2);
        due("its place", x.wouldSend(1, 1), 1);
    }

    @Sentence(of = "Promise 18", says = "Returns the number;")
    void promise18ReturnsTheNumber() {
        x.insert(2, 0, 7);
        due("a place of 0", x.wouldSend(2, 1), 0);
        publish(0, 0, "abcdefghijklmnopqrstuvwxyzabcd");
        due("a place of 30", x.wouldSend(2, 1), 30);
    }

    @Sentence(of = "Promise 18", says = "INVALID_ARGUMENT if an argument is out of range;")
    void promise18InvalidIfAnyArgumentIs() {
        write(0, 0, "a");
        for (int what : new int[] {-1, 2, LEAST, MOST}) {
            due("what " + what, x.wouldSend(0, what), INVALID);
        }
        due("editor", x.wouldSend(3, 0), INVALID);
        due("both", x.wouldSend(-1, -1), INVALID);
    }

    @Sentence(of = "Promise 18", says = "NOT_POSSIBLE if none waits")
    void promise18NotPossibleIfNoneWaits() {
        due("kind", x.wouldSend(0, 0), NOT_POSSIBLE);
        due("place", x.wouldSend(0, 1), NOT_POSSIBLE);
        publish(0, 0, "a");
        due("when it was heard", x.wouldSend(0, 0), NOT_POSSIBLE);
        x.insert(1, 0, 0);
        due("when one of another waits", x.wouldSend(0, 0), NOT_POSSIBLE);
    }

    @Sentence(of = "Promise 18", says = "or one is under way;")
    void promise18NotPossibleIfOneIsUnderWay() {
        write(0, 0, "ab");
        x.send(0);
        due("kind", x.wouldSend(0, 0), NOT_POSSIBLE);
        due("place", x.wouldSend(0, 1), NOT_POSSIBLE);
        x.hear(0);
        due("place of the second one", x.wouldSend(0, 1), 1);
    }

    @Sentence(of = "Promise 18", says = "NOT_FOUND for 1 if it would be nothing.")
    void promise18NotFoundForThePlaceOfNothing() {
        common(0, "a");
        x.delete(0, 0);
        x.delete(1, 0);
        due("its place ahead of that", x.wouldSend(1, 1), 0);
        x.send(0);
        due("its kind", x.wouldSend(1, 0), 0);
        due("its place", x.wouldSend(1, 1), NOT_FOUND);
        waits(1, 0, 2, 0, NOT_FOUND);
        x.hear(1);
        due("its kind, if it is nothing in the row", x.wouldSend(1, 0), 0);
        due("its place, if it is nothing in the row", x.wouldSend(1, 1), NOT_FOUND);
    }

    @Sentence(of = "Promise 19", says = "Restores the latest state of the history, which is removed "
            + "from it.")
    void promise19RestoresTheLatestState() {
        write(0, 0, "abc");
        x.undo();
        text(0, "ab");
        due("three letters were written, two are left", x.count(5), 2);
        x.undo();
        text(0, "a");
        x.insert(0, 1, 25);
        text(0, "az");
        x.undo();
        text(0, "a");
        x.undo();
        text(0, "");
    }

    @Sentence(of = "Promise 19", says = "Restores the latest state of the history, which is removed "
            + "from it.")
    void promise19AgainAndAgain() {
        write(0, 0, "abcdef");
        for (int round = 0; round < 3; round++) {
            for (int place = 1; place <= 4; place++) {
                x.mark(0, place);
            }
            x.undo();
            due("behind undo", x.editorOf(0, 5), 3);
            x.mark(0, 5);
            x.mark(0, 6);
            for (int want : new int[] {5, 3, 2, 1}) {
                x.undo();
                due("back to", x.editorOf(0, 5), want);
            }
            due("no more", x.undo(), NOT_POSSIBLE);
        }
    }

    @Sentence(of = "Promise 19", says = "Returns the number of states that are left in the history;")
    void promise19ReturnsTheNumberOfStatesLeft() {
        x.mark(0, 0);
        due("of 1", x.undo(), 0);
        write(0, 0, "abcde");
        for (int left = 3; left >= 0; left--) {
            due("of " + (left + 1), x.undo(), left);
            due("it is the number of states", x.count(5), left);
        }
    }

    @Sentence(of = "Promise 19", says = "NOT_POSSIBLE if it is empty.")
    void promise19NotPossibleIfItIsEmpty() {
        due("of a new one", x.undo(), NOT_POSSIBLE);
        x.type('s');
        x.clearText();
        x.insert(0, 1, 0);
        due("when nothing was recorded", x.undo(), NOT_POSSIBLE);
        x.insert(0, 0, 0);
        x.undo();
        due("when all is undone", x.undo(), NOT_POSSIBLE);
        due("no letter is left", x.editorOf(0, 0), 0);
        x.clear();
        due("clear itself can be undone", x.undo(), 0);
        due("but no more", x.undo(), NOT_POSSIBLE);
    }
}
