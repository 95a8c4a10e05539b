/** Promises 10 to 15: what there is. */
final class AskingTests extends SentenceTests {
    @Sentence(of = "Promise 10", says = "Returns a letter of a copy, or of the text of the log.")
    void promise10ALetterOfACopyOrOfTheLog() {
        publish(1, 0, "abc");
        x.delete(1, 0);
        x.insert(0, 0, 25);
        x.hear(2);
        text(0, "z");
        text(1, "bc");
        text(2, "a");
        text(3, "abc");
    }

    @Sentence(of = "Promise 10", says = "- `whose`: number of the editor, 3: the text of the log")
    void promise10WhoseIs0To3() {
        publish(0, 0, "a");
        hearEverywhere();
        for (int whose = 0; whose <= 3; whose++) {
            due("whose " + whose, x.letter(whose, 0), 0);
        }
        for (int whose : new int[] {-1, 4, LEAST, MOST}) {
            due("whose " + whose, x.letter(whose, 0), INVALID);
        }
    }

    @Sentence(of = "Promise 10", says = "- `place`: 0 or more")
    void promise10PlaceIs0OrMore() {
        publish(0, 0, "ab");
        for (int whose = 0; whose <= 3; whose += 3) {
            due("0", x.letter(whose, 0), 0);
            due("1", x.letter(whose, 1), 1);
            due("-1", x.letter(whose, -1), INVALID);
            due("the least", x.letter(whose, LEAST), INVALID);
        }
    }

    @Sentence(of = "Promise 10", says = "Returns the letter;")
    void promise10ReturnsTheLetter0To25() {
        publish(0, 0, "az");
        due("a", x.letter(0, 0), 0);
        due("z", x.letter(0, 1), 25);
        due("a of the log", x.letter(3, 0), 0);
        due("z of the log", x.letter(3, 1), 25);
    }

    @Sentence(of = "Promise 10", says = "INVALID_ARGUMENT if whose is out of range or place is "
            + "negative;")
    void promise10InvalidIfWhoseOrPlaceIs() {
        due("whose", x.letter(4, 0), INVALID);
        due("place", x.letter(3, -1), INVALID);
        due("both", x.letter(-1, -1), INVALID);
    }

    @Sentence(of = "Promise 10", says = "NOT_FOUND if there are not so many.")
    void promise10NotFoundIfThereAreNotSoMany() {
        for (int whose = 0; whose <= 3; whose++) {
            due("0 of none", x.letter(whose, 0), NOT_FOUND);
        }
        publish(0, 0, "ab");
        x.hear(1);
        write(2, 0, "xyz");
        due("2 of 2", x.letter(0, 2), NOT_FOUND);
        due("1 of 1", x.letter(1, 1), NOT_FOUND);
        due("2 of 3", x.letter(2, 2), 25);
        due("3 of 3", x.letter(2, 3), NOT_FOUND);
        due("2 of 2 of the log", x.letter(3, 2), NOT_FOUND);
        x.delete(0, 0);
        due("1 of 1, when one was taken out", x.letter(0, 1), NOT_FOUND);
        due("1 of 2 of the log, where it was not", x.letter(3, 1), 1);
        due("the most place", x.letter(0, MOST), NOT_FOUND);
        due("the most place of the log", x.letter(3, MOST), NOT_FOUND);
    }

    @Sentence(of = "Promise 10", says = "NOT_FOUND if there are not so many.")
    void promise10TextsOfMoreThan30Letters() {
        write(1, 0, "uvwxyz");
        publish(0, 0, "abcdefghijklmnopqrstuvwxyzabcd");
        flush(1);
        due("30 of the copy", x.letter(1, 30), 20);
        due("35 of the copy", x.letter(1, 35), 25);
        due("36 of the copy", x.letter(1, 36), NOT_FOUND);
        due("35 of the log", x.letter(3, 35), 25);
        due("36 of the log", x.letter(3, 36), NOT_FOUND);
        due("29 of another copy", x.letter(0, 29), 3);
        due("30 of another copy", x.letter(0, 30), NOT_FOUND);
    }

    @Sentence(of = "Promise 11", says = "Returns something of an editor.")
    void promise11OfEachEditorItsOwn() {
        publish(0, 0, "ab");
        x.hear(1);
        write(1, 1, "xyz");
        x.send(1);
        x.mark(1, 2);
        int[][] wants = {{2, 0, 0, 2, 1, 2, 2, 0, 2}, {4, 3, 1, 1, 2, 2, 3, 0, 3},
            {0, 0, 0, 0, 3, 0, 0, 0, 0}};
        for (int editor = 0; editor < 3; editor++) {
            for (int what = 0; what <= 8; what++) {
                due("editorOf(" + editor + ", " + what + ")", x.editorOf(editor, what),
                        wants[editor][what]);
            }
        }
    }

    @Sentence(of = "Promise 11", says = "- `editor`: number of the editor")
    void promise11EditorIs0To2() {
        for (int editor : NO_EDITORS) {
            for (int what = 0; what <= 8; what++) {
                due("editor " + editor, x.editorOf(editor, what), INVALID);
            }
        }
    }

    @Sentence(of = "Promise 11", says = "- `what`: 0: the length of the copy;")
    void promise11LengthOfTheCopy() {
        due("of an empty one", x.editorOf(0, 0), 0);
        publish(1, 0, "abcdefghijklmnopqrstuvwxyzabcd");
        write(0, 0, "uvwxyz");
        due("of what was written", x.editorOf(0, 0), 6);
        x.hearAll(0);
        due("of what was heard, too", x.editorOf(0, 0), 36);
        flush(0);
        x.hearAll(2);
        due("of what was heard alone", x.editorOf(2, 0), 36);
    }

    @Sentence(of = "Promise 11", says = "1: changes that wait;")
    void promise11ChangesThatWait() {
        for (int i = 0; i <= 6; i++) {
            due("behind " + i, x.editorOf(1, 1), i);
            x.insert(1, 0, 0);
        }
        due("behind 7", x.editorOf(1, 1), 6);
        for (int i = 6; i > 0; i--) {
            x.send(1);
            due("one is under way", x.editorOf(1, 1), i);
            x.hear(1);
            due("it was heard", x.editorOf(1, 1), i - 1);
        }
    }

    @Sentence(of = "Promise 11", says = "2: 1 if the first one is under way, otherwise 0;")
    void promise11FirstOneIsUnderWay() {
        due("none waits", x.editorOf(2, 2), 0);
        write(2, 0, "ab");
        due("none was sent", x.editorOf(2, 2), 0);
        x.send(2);
        due("one was sent", x.editorOf(2, 2), 1);
        x.hear(2);
        due("it was heard", x.editorOf(2, 2), 0);
    }

    @Sentence(of = "Promise 11", says = "3: changes of the log that were heard;")
    void promise11ChangesHeard() {
        fillLog(0, 60);
        due("60 by their editor", x.editorOf(0, 3), 60);
        due("none", x.editorOf(1, 3), 0);
        x.hear(1);
        due("one", x.editorOf(1, 3), 1);
        x.hearAll(1);
        due("60", x.editorOf(1, 3), 60);
        x.insert(2, 0, 0);
        due("what is written is not heard", x.editorOf(2, 3), 0);
    }

    @Sentence(of = "Promise 11", says = "4: those that were not;")
    void promise11ChangesNotHeard() {
        due("of none", x.editorOf(0, 4), 0);
        fillLog(0, 59);
        x.insert(1, 0, 0);
        due("59", x.editorOf(1, 4), 59);
        x.send(1);
        due("the own one, too", x.editorOf(1, 4), 60);
        due("one, of which 59 were heard", x.editorOf(0, 4), 1);
        x.hear(1);
        due("one less", x.editorOf(1, 4), 59);
        x.hearAll(1);
        due("none", x.editorOf(1, 4), 0);
    }

    @Sentence(of = "Promise 11", says = "5: the mark;")
    void promise11TheMark() {
        due("at first", x.editorOf(0, 5), 0);
        write(0, 0, "abc");
        due("behind what is written there", x.editorOf(0, 5), 3);
        x.mark(0, 0);
        due("0", x.editorOf(0, 5), 0);
        x.mark(0, 3);
        due("the length", x.editorOf(0, 5), 3);
    }

    @Sentence(of = "Promise 11", says = "6: changes that can be taken back;")
    void promise11ChangesThatCanBeTakenBack() {
        due("none", x.editorOf(0, 6), 0);
        publish(0, 0, "abcdefg");
        due("6 of 7", x.editorOf(0, 6), 6);
        x.takeBack(0);
        due("one less", x.editorOf(0, 6), 5);
        x.hearAll(1);
        x.delete(1, 0);
        x.delete(1, 0);
        flush(1);
        x.hearAll(0);
        due("what became nothing counts", x.editorOf(0, 6), 5);
    }

    @Sentence(of = "Promise 11", says = "7: 1 if the copy is the same as the text of the log, "
            + "otherwise 0;")
    void promise11SameAsTheTextOfTheLog() {
        due("both empty", x.editorOf(0, 7), 1);
        x.insert(0, 0, 0);
        due("longer", x.editorOf(0, 7), 0);
        x.send(0);
        due("sent, though not heard", x.editorOf(0, 7), 1);
        due("shorter", x.editorOf(1, 7), 0);
        x.insert(1, 0, 1);
        due("another letter", x.editorOf(1, 7), 0);
        x.delete(1, 0);
        x.insert(1, 0, 0);
        due("the same letter, though by another editor", x.editorOf(1, 7), 1);
        publish(2, 0, "b");
        x.hearAll(0);
        text(0, "ab");
        due("two letters", x.editorOf(0, 7), 1);
        x.delete(0, 0);
        x.insert(0, 1, 0);
        text(0, "ba");
        due("the same letters in another order", x.editorOf(0, 7), 0);
    }

    @Sentence(of = "Promise 11", says = "8: changes written so far")
    void promise11ChangesWritten() {
        for (int i = 0; i < 30; i++) {
            due("behind " + i, x.editorOf(0, 8), i);
            publish(0, i, "a");
        }
        due("30 that put in", x.editorOf(0, 8), 30);
        x.delete(0, 0);
        due("one that takes out", x.editorOf(0, 8), 31);
        x.takeBack(0);
        due("one that takes back", x.editorOf(0, 8), 32);
        x.mark(0, 0);
        x.send(0);
        x.hearAll(0);
        due("neither a mark, nor what is sent or heard", x.editorOf(0, 8), 32);
        x.insert(0, 0, 0);
        due("nor what is refused", x.editorOf(0, 8), 32);
        flush(0);
        x.hearAll(1);
        due("none of another, who heard them", x.editorOf(1, 8), 0);
        x.delete(1, 29);
        flush(1);
        x.hearAll(0);
        due("nothing is taken back", x.takeBack(0), 0);
        due("nor that", x.editorOf(0, 8), 32);
    }

    @Sentence(of = "Promise 11", says = "Returns the number;")
    void promise11ReturnsTheNumber() {
        int[] wants = {0, 0, 0, 0, 0, 0, 0, 1, 0};
        for (int what = 0; what <= 8; what++) {
            due("what " + what, x.editorOf(2, what), wants[what]);
        }
    }

    @Sentence(of = "Promise 11", says = "INVALID_ARGUMENT if an argument is out of range.")
    void promise11InvalidIfAnyArgumentIs() {
        for (int what : new int[] {-1, 9, LEAST, MOST}) {
            due("what " + what, x.editorOf(0, what), INVALID);
        }
        due("editor", x.editorOf(3, 8), INVALID);
        due("both", x.editorOf(3, 9), INVALID);
    }

    @Sentence(of = "Promise 12", says = "Returns something of a change that waits (as it is in the "
            + "row).")
    void promise12AsItIsInTheRow() {
        publish(0, 0, "ab");
        x.insert(1, 0, 25);
        x.send(1);
        waits(1, 0, 1, 0, 25);
        inLog(2, 1, 2, 25, 1);
        x.hear(1);
        waits(1, 0, 1, 1, 25);
        x.hear(1);
        waits(1, 0, 1, 2, 25);
    }

    @Sentence(of = "Promise 12", says = "- `editor`: number of the editor")
    void promise12EditorIs0To2() {
        for (int editor = 0; editor < 3; editor++) {
            x.insert(editor, 0, editor);
        }
        for (int editor : NO_EDITORS) {
            due("editor " + editor, x.waitingOf(editor, 0, 0), INVALID);
        }
        for (int editor = 0; editor < 3; editor++) {
            waits(editor, 0, 1, 0, editor);
        }
    }

    @Sentence(of = "Promise 12", says = "- `index`: 0 for the first one, and so on")
    void promise12IndexIs0ForTheFirstOne() {
        for (int i = 0; i < 6; i++) {
            x.insert(0, 0, i);
        }
        for (int i = 0; i < 6; i++) {
            waits(0, i, 1, 0, i);
        }
        x.send(0);
        waits(0, 0, 1, 0, 0);
        x.hear(0);
        waits(0, 0, 1, 0, 1);
    }

    @Sentence(of = "Promise 12", says = "- `what`: 0: its kind; 1: its place; 2: its letter")
    void promise12WhatIsItsKindPlaceOrLetter() {
        x.insert(0, 0, 25);
        x.insert(0, 1, 0);
        x.delete(0, 1);
        waits(0, 0, 1, 0, 25);
        waits(0, 1, 1, 1, 0);
        waits(0, 2, 2, 1, NOT_FOUND);
    }

    @Sentence(of = "Promise 12", says = "Returns the number;")
    void promise12PlacesOfLongCopies() {
        publish(0, 0, "abcdefghijklmnopqrstuvwxyzabc");
        x.insert(0, 29, 25);
        x.delete(0, 29);
        waits(0, 0, 1, 29, 25);
        waits(0, 1, 2, 29, NOT_FOUND);
    }

    @Sentence(of = "Promise 12", says = "INVALID_ARGUMENT if an argument is out of range or index is "
            + "negative;")
    void promise12InvalidIfAnArgumentIsOrIndexIsNegative() {
        write(0, 0, "a");
        due("index -1", x.waitingOf(0, -1, 0), INVALID);
        due("the least index", x.waitingOf(0, LEAST, 0), INVALID);
        for (int what : new int[] {-1, 3, LEAST, MOST}) {
            due("what " + what, x.waitingOf(0, 0, what), INVALID);
        }
        due("what 3 of none", x.waitingOf(0, 1, 3), INVALID);
        due("editor 3 of none", x.waitingOf(3, 1, 0), INVALID);
    }

    @Sentence(of = "Promise 12", says = "NOT_FOUND if there are not so many")
    void promise12NotFoundIfThereAreNotSoMany() {
        for (int what = 0; what <= 2; what++) {
            due("0 of none", x.waitingOf(0, 0, what), NOT_FOUND);
        }
        write(0, 0, "abcdef");
        due("5 of 6", x.waitingOf(0, 5, 0), 1);
        for (int what = 0; what <= 2; what++) {
            due("6 of 6", x.waitingOf(0, 6, what), NOT_FOUND);
            due("the most index", x.waitingOf(0, MOST, what), NOT_FOUND);
        }
        x.send(0);
        x.hear(0);
        due("4 of 5", x.waitingOf(0, 4, 2), 5);
        due("5 of 5", x.waitingOf(0, 5, 2), NOT_FOUND);
        due("0 of another editor", x.waitingOf(1, 0, 0), NOT_FOUND);
    }

    @Sentence(of = "Promise 12", says = "for 1 if it is nothing")
    void promise12NotFoundForThePlaceOfNothing() {
        common(0, "ab");
        x.delete(1, 1);
        x.delete(0, 1);
        x.send(0);
        due("the place ahead of that", x.waitingOf(1, 0, 1), 1);
        x.hear(1);
        due("the kind", x.waitingOf(1, 0, 0), 0);
        due("the place", x.waitingOf(1, 0, 1), NOT_FOUND);
        due("the letter", x.waitingOf(1, 0, 2), NOT_FOUND);
    }

    @Sentence(of = "Promise 12", says = "for 2 if it puts nothing in.")
    void promise12NotFoundForTheLetterOfOneThatPutsNothingIn() {
        common(0, "ab");
        x.delete(1, 1);
        due("of one that takes out", x.waitingOf(1, 0, 2), NOT_FOUND);
        x.takeBack(1);
        due("of one that puts in again", x.waitingOf(1, 1, 2), 1);
    }

    @Sentence(of = "Promise 13", says = "Returns something of a change of the log.")
    void promise13AsItIsInTheLog() {
        common(0, "abc");
        x.delete(1, 1);
        x.delete(2, 1);
        x.send(1);
        x.send(2);
        inLog(2, 1, 2, 2, 0);
        inLog(3, 2, 1, NOT_FOUND, 1);
        inLog(4, 0, NOT_FOUND, NOT_FOUND, 2);
    }

    @Sentence(of = "Promise 13", says = "- `index`: 0 for the first one, and so on")
    void promise13IndexIs0ForTheFirstOne() {
        fillLog(0, 58);
        publish(1, 0, "z");
        publish(2, 0, "y");
        inLog(0, 1, 0, 0, 0);
        inLog(57, 2, 0, NOT_FOUND, 0);
        inLog(58, 1, 0, 25, 1);
        inLog(59, 1, 1, 24, 2);
        due("behind the 60th", x.logOf(60, 0), NOT_FOUND);
    }

    @Sentence(of = "Promise 13", says = "- `what`: 0: its kind; 1: its place; 2: its letter; 3: its "
            + "editor")
    void promise13WhatIsItsKindPlaceLetterOrEditor() {
        x.insert(2, 0, 25);
        x.send(2);
        x.hearAll(1);
        x.insert(1, 1, 0);
        x.send(1);
        x.hearAll(0);
        x.delete(0, 1);
        x.send(0);
        inLog(0, 1, 0, 25, 2);
        inLog(1, 1, 1, 0, 1);
        inLog(2, 2, 1, NOT_FOUND, 0);
    }

    @Sentence(of = "Promise 13", says = "Returns the number;")
    void promise13PlacesOfLongTexts() {
        write(1, 0, "uvwxyz");
        publish(0, 0, "abcdefghijklmnopqrstuvwxyzabcd");
        flush(1);
        inLog(29, 1, 29, 3, 0);
        inLog(35, 1, 35, 25, 1);
    }

    @Sentence(of = "Promise 13", says = "INVALID_ARGUMENT if index is negative or what is out of "
            + "range;")
    void promise13InvalidIfIndexIsNegativeOrWhatIsOutOfRange() {
        publish(0, 0, "a");
        due("index -1", x.logOf(-1, 0), INVALID);
        due("the least index", x.logOf(LEAST, 0), INVALID);
        for (int what : new int[] {-1, 4, LEAST, MOST}) {
            due("what " + what, x.logOf(0, what), INVALID);
            due("what " + what + " of none", x.logOf(1, what), INVALID);
        }
        due("both", x.logOf(-1, 4), INVALID);
    }

    @Sentence(of = "Promise 13", says = "NOT_FOUND if there are not so many")
    void promise13NotFoundIfThereAreNotSoMany() {
        for (int what = 0; what <= 3; what++) {
            due("0 of none", x.logOf(0, what), NOT_FOUND);
        }
        write(0, 0, "a");
        due("0, which waits", x.logOf(0, 0), NOT_FOUND);
        x.send(0);
        due("0 of 1", x.logOf(0, 0), 1);
        for (int what = 0; what <= 3; what++) {
            due("1 of 1", x.logOf(1, what), NOT_FOUND);
            due("the most index", x.logOf(MOST, what), NOT_FOUND);
        }
    }

    @Sentence(of = "Promise 13", says = "for 1 if it is nothing")
    void promise13NotFoundForThePlaceOfNothing() {
        common(0, "a");
        x.delete(1, 0);
        x.delete(2, 0);
        x.send(2);
        x.send(1);
        inLog(1, 2, 0, NOT_FOUND, 2);
        inLog(2, 0, NOT_FOUND, NOT_FOUND, 1);
    }

    @Sentence(of = "Promise 13", says = "for 2 if it puts nothing in.")
    void promise13NotFoundForTheLetterOfOneThatPutsNothingIn() {
        publish(0, 0, "z");
        x.delete(0, 0);
        flush(0);
        x.takeBack(0);
        flush(0);
        due("of one that takes out", x.logOf(1, 2), NOT_FOUND);
        due("of one that puts in again", x.logOf(2, 2), 25);
    }

    @Sentence(of = "Promise 14", says = "Returns the editor who put in a letter of the text of the "
            + "log.")
    void promise14TheEditorWhoPutALetterIn() {
        publish(1, 0, "ab");
        x.hearAll(0);
        x.insert(0, 1, 25);
        flush(0);
        x.hearAll(2);
        x.insert(2, 0, 24);
        flush(2);
        text(3, "yazb");
        int[] editors = {2, 1, 0, 1};
        for (int place = 0; place < 4; place++) {
            due("of place " + place, x.by(place), editors[place]);
        }
        x.hearAll(0);
        x.delete(0, 1);
        flush(0);
        due("behind one that was taken out", x.by(1), 0);
        due("the last one", x.by(2), 1);
        due("behind the end", x.by(3), NOT_FOUND);
        x.takeBack(0);
        flush(0);
        due("put in again by another", x.by(1), 0);
        due("the last one again", x.by(3), 1);
    }

    @Sentence(of = "Promise 14", says = "- `place`: 0 or more")
    void promise14PlaceIs0OrMore() {
        write(1, 0, "uvwxyz");
        publish(0, 0, "abcdefghijklmnopqrstuvwxyzabcd");
        flush(1);
        due("0", x.by(0), 0);
        due("29", x.by(29), 0);
        due("30", x.by(30), 1);
        due("35", x.by(35), 1);
        due("36", x.by(36), NOT_FOUND);
    }

    @Sentence(of = "Promise 14", says = "Returns the editor;")
    void promise14ReturnsTheEditor0To2() {
        for (int editor = 0; editor < 3; editor++) {
            x.insert(editor, 0, 7);
            x.send(editor);
        }
        for (int place = 0; place < 3; place++) {
            due("of place " + place, x.by(place), place);
        }
    }

    @Sentence(of = "Promise 14", says = "INVALID_ARGUMENT if place is negative;")
    void promise14InvalidIfPlaceIsNegative() {
        due("-1 of none", x.by(-1), INVALID);
        publish(0, 0, "a");
        due("-1", x.by(-1), INVALID);
        due("the least place", x.by(LEAST), INVALID);
    }

    @Sentence(of = "Promise 14", says = "NOT_FOUND if there are not so many letters.")
    void promise14NotFoundIfThereAreNotSoMany() {
        due("0 of none", x.by(0), NOT_FOUND);
        write(0, 0, "ab");
        due("0, which waits", x.by(0), NOT_FOUND);
        x.send(0);
        due("0 of 1", x.by(0), 0);
        due("1 of 1", x.by(1), NOT_FOUND);
        due("the most place", x.by(MOST), NOT_FOUND);
        x.hear(0);
        x.delete(0, 0);
        flush(0);
        text(3, "b");
        x.delete(0, 0);
        flush(0);
        due("0 of none again", x.by(0), NOT_FOUND);
    }

    @Sentence(of = "Promise 15", says = "Returns a number.")
    void promise15EachOfThem() {
        common(0, "abc");
        x.delete(1, 1);
        x.delete(2, 1);
        x.insert(2, 0, 1);
        x.insert(2, 0, 1);
        x.send(1);
        x.send(2);
        x.hearAll(1);
        x.type('i');
        x.type('0');
        int[] wants = {5, 2, 1, 3, 1, 4, 2};
        for (int what = 0; what <= 6; what++) {
            due("count " + what, x.count(what), wants[what]);
        }
    }

    @Sentence(of = "Promise 15", says = "- `what`: 0: changes of the log;")
    void promise15ChangesOfTheLog() {
        due("none", x.count(0), 0);
        x.insert(0, 0, 0);
        due("none, if it waits", x.count(0), 0);
        x.send(0);
        due("one", x.count(0), 1);
        x.hear(0);
        due("one, if it is heard", x.count(0), 1);
        x.clear();
        fillLog(1, 60);
        due("60", x.count(0), 60);
    }

    @Sentence(of = "Promise 15", says = "1: the length of its text;")
    void promise15LengthOfItsText() {
        due("of none", x.count(1), 0);
        write(1, 0, "uvwxyz");
        due("of what waits", x.count(1), 0);
        publish(0, 0, "abcdefghijklmnopqrstuvwxyzabcd");
        flush(1);
        due("of 36 that put in", x.count(1), 36);
        x.delete(0, 0);
        flush(0);
        due("behind one that takes out", x.count(1), 35);
    }

    @Sentence(of = "Promise 15", says = "2: those of the log that are nothing;")
    void promise15ThoseOfTheLogThatAreNothing() {
        due("of an empty log", x.count(2), 0);
        common(0, "ab");
        due("of those that put in", x.count(2), 0);
        for (int editor = 0; editor < 3; editor++) {
            x.delete(editor, 0);
            x.delete(editor, 0);
        }
        for (int i = 0; i < 2; i++) {
            for (int editor = 0; editor < 3; editor++) {
                x.send(editor);
                due("of those that take out", x.count(2), 2 * i + editor);
            }
            hearEverywhere();
        }
    }

    @Sentence(of = "Promise 15", says = "3: changes that wait, of all editors;")
    void promise15ChangesThatWaitOfAllEditors() {
        due("none", x.count(3), 0);
        write(0, 0, "abcdef");
        due("six", x.count(3), 6);
        write(1, 0, "abcdef");
        write(2, 0, "abcdef");
        due("eighteen", x.count(3), 18);
        x.send(1);
        due("one of them is under way", x.count(3), 18);
        x.hear(1);
        due("it was heard", x.count(3), 17);
    }

    @Sentence(of = "Promise 15", says = "4: editors who have heard all of the log and have nothing "
            + "that waits;")
    void promise15EditorsWhoHeardAllAndHaveNothingThatWaits() {
        due("all, of an empty log", x.count(4), 3);
        x.insert(0, 0, 0);
        due("one waits", x.count(4), 2);
        x.send(0);
        due("nobody heard it", x.count(4), 0);
        x.hear(1);
        due("one heard it", x.count(4), 1);
        x.insert(1, 0, 0);
        due("one heard it, but has one that waits", x.count(4), 0);
        x.hear(0);
        x.hear(2);
        due("two heard it", x.count(4), 2);
        flush(1);
        due("the others did not hear that", x.count(4), 1);
        hearEverywhere();
        due("all did", x.count(4), 3);
    }

    @Sentence(of = "Promise 15", says = "5: states in the history;")
    void promise15StatesInTheHistory() {
        for (int i = 0; i <= 5; i++) {
            due("behind " + i, x.count(5), Math.min(i, 4));
            x.mark(0, 0);
        }
        for (int i = 3; i >= 0; i--) {
            x.undo();
            due("behind undo", x.count(5), i);
        }
        x.undo();
        due("behind an undo that is not possible", x.count(5), 0);
    }

    @Sentence(of = "Promise 15", says = "6: the length of the text of commands")
    void promise15LengthOfTheTextOfCommands() {
        for (int i = 0; i <= 60; i++) {
            due("behind " + i, x.count(6), i);
            x.type(' ');
        }
        due("behind 61", x.count(6), 60);
        x.clearText();
        due("behind clearText", x.count(6), 0);
    }

    @Sentence(of = "Promise 15", says = "Returns the number;")
    void promise15ReturnsTheNumber() {
        int[] wants = {0, 0, 0, 0, 3, 0, 0};
        for (int what = 0; what <= 6; what++) {
            due("what " + what, x.count(what), wants[what]);
        }
    }

    @Sentence(of = "Promise 15", says = "INVALID_ARGUMENT if what is out of range.")
    void promise15InvalidIfWhatIsOutOfRange() {
        for (int what : new int[] {-1, 7, LEAST, MOST}) {
            due("what " + what, x.count(what), INVALID);
        }
    }
}
