/** Promises 20 to 23: the text of commands. */
final class TextTests extends SentenceTests {
    @Sentence(of = "Promise 20", says = "Appends a character to the text of commands.")
    void promise20Appends() {
        x.type('h');
        x.type('0');
        due("not of the form yet", x.fault(1), 1);
        x.type(';');
        due("of the form, but not possible", x.fault(1), 2);
    }

    @Sentence(of = "Promise 20", says = "- `character`: 32 to 126")
    void promise20CharacterIs32To126() {
        due("31", x.type(31), INVALID);
        due("127", x.type(127), INVALID);
        due("32", x.type(32), 1);
        due("126", x.type(126), 2);
        for (int character : new int[] {-1, 0, 10, 128, 255, LEAST, MOST}) {
            due("" + character, x.type(character), INVALID);
        }
        for (int character = 32; character <= 126; character++) {
            x.clearText();
            due("" + character, x.type(character), 1);
        }
    }

    @Sentence(of = "Promise 20", says = "Returns the length of the text;")
    void promise20ReturnsTheLength() {
        for (int i = 1; i <= 60; i++) {
            due("character " + i, x.type('0'), i);
        }
        x.clearText();
        due("behind clearText", x.type('0'), 1);
    }

    @Sentence(of = "Promise 20", says = "INVALID_ARGUMENT if character is out of range;")
    void promise20InvalidIfCharacterIsOutOfRange() {
        x.type('0');
        due("31", x.type(31), INVALID);
        due("127", x.type(127), INVALID);
        due("the length", x.count(6), 1);
    }

    @Sentence(of = "Promise 20", says = "LIMIT_REACHED if it has 60 characters.")
    void promise20LimitIfItHas60Characters() {
        for (int i = 1; i <= 59; i++) {
            x.type(' ');
        }
        due("when it has 59", x.type(' '), 60);
        due("when it has 60", x.type(' '), LIMIT);
        due("the length", x.count(6), 60);
        x.clearText();
        due("when it has none", x.type(' '), 1);
    }

    @Sentence(of = "Promise 21", says = "Empties the text of commands.")
    void promise21EmptiesTheText() {
        typed("s9;");
        x.clearText();
        due("its length", x.count(6), 0);
        due("no fault", x.fault(0), NOT_FOUND);
        due("no commands", x.play(), 0);
        typed("h0;");
        due("only what is typed then", x.fault(0), 0);
        due("its length", x.count(6), 3);
    }

    @Sentence(of = "Promise 21", says = "Returns the length it had.")
    void promise21ReturnsTheLengthItHad() {
        due("of an empty one", x.clearText(), 0);
        x.type(' ');
        due("of one character", x.clearText(), 1);
        due("of an empty one again", x.clearText(), 0);
        for (int i = 0; i < 61; i++) {
            x.type(' ');
        }
        due("of 60", x.clearText(), 60);
    }

    @Sentence(of = "Promise 22", says = "Tells about the fault of the text of commands.")
    void promise22TellsAboutTheFault() {
        fault("i0,0,7;s1;", 7, 2, NOT_POSSIBLE);
        due("nothing is done by it", x.editorOf(0, 0), 0);
        due("nothing is recorded by it", x.count(5), 0);
        due("the text stays", x.count(6), 10);
    }

    @Sentence(of = "Promise 22", says = "- `what`: 0: its position; 1: its reason; 2: its cause")
    void promise22WhatIsItsPositionReasonOrCause() {
        typed("i0,0,0;d0,1;");
        due("position", x.fault(0), 7);
        due("reason", x.fault(1), 2);
        due("cause", x.fault(2), INVALID);
        typed("?");
        due("a position of 0", x.fault(0), 0);
        due("a reason of 1", x.fault(1), 1);
        // The fault that lies farthest behind: at the last one of 60 characters.
        String commands = "i0,00,1;i1,0,1;i2,0,1;i00,0,1;i1,0,1;i2,0,1;s0;s1;s2;h0;h1;";
        fault(commands + "h", 59, 1, NOT_FOUND);
        due("of 60 characters", x.count(6), 60);
        noFault(commands);
    }

    @Sentence(of = "Promise 22", says = "Returns that;")
    void promise22ReturnsThat() {
        fault("s0;", 0, 2, NOT_POSSIBLE);
        fault("s", 0, 1, NOT_FOUND);
    }

    @Sentence(of = "Promise 22", says = "INVALID_ARGUMENT if what is out of range;")
    void promise22InvalidIfWhatIsOutOfRange() {
        for (int what : new int[] {-1, 3, LEAST, MOST}) {
            due("what " + what + " of no fault", x.fault(what), INVALID);
        }
        typed("s0;");
        for (int what : new int[] {-1, 3, LEAST, MOST}) {
            due("what " + what, x.fault(what), INVALID);
        }
    }

    @Sentence(of = "Promise 22", says = "NOT_FOUND if the text has no fault (also if it is empty)")
    void promise22NotFoundIfTheTextHasNoFault() {
        noFault("i0,0,0;s0;h1;");
        noFault("");
        anew();
        for (int what = 0; what <= 2; what++) {
            due("of a new object " + what, x.fault(what), NOT_FOUND);
        }
    }

    @Sentence(of = "Promise 22", says = "for 2 if its reason is 1.")
    void promise22NotFoundForTheCauseIfTheReasonIs1() {
        typed("s0");
        due("reason", x.fault(1), 1);
        due("cause", x.fault(2), NOT_FOUND);
        x.type(';');
        due("reason then", x.fault(1), 2);
        due("cause then", x.fault(2), NOT_POSSIBLE);
        typed("s9;s");
        due("cause of the first one", x.fault(2), INVALID);
        typed("i0,0,0;s");
        due("cause behind one that is possible", x.fault(2), NOT_FOUND);
    }

    @Sentence(of = "Promise 23", says = "Does all commands of the text, which stays.")
    void promise23DoesAllCommands() {
        typed("i0,0,7;i0,1,8;s0;h1;d1,0;b0;");
        due("six", x.play(), 6);
        text(0, "h");
        text(1, "");
        text(3, "h");
        due("the log", x.count(0), 1);
        due("three wait of 0", x.editorOf(0, 1), 3);
        due("one is under way", x.editorOf(0, 2), 1);
        due("one waits of 1", x.editorOf(1, 1), 1);
        due("three were written", x.editorOf(0, 8), 3);
        due("one can be taken back", x.editorOf(0, 6), 1);
        due("the mark", x.editorOf(0, 5), 1);
        due("who put it in", x.by(0), 0);
    }

    @Sentence(of = "Promise 23", says = "which stays.")
    void promise23TheTextStays() {
        typed("i2,0,7;");
        x.play();
        due("its length", x.count(6), 7);
        due("it is done again", x.play(), 1);
        text(2, "hh");
        x.undo();
        due("and behind undo", x.play(), 1);
        text(2, "hh");
    }

    @Sentence(of = "Promise 23", says = "They are recorded as one, also if there are none.")
    void promise23RecordedAsOne() {
        x.insert(1, 0, 0);
        x.mark(1, 0);
        typed("i0,0,7;i0,1,8;s0;h0;i0,2,9;h1;");
        x.play();
        due("one state more", x.count(5), 3);
        text(0, "hij");
        due("undo", x.undo(), 2);
        text(0, "");
        text(1, "a");
        due("the log", x.count(0), 0);
        due("the mark", x.editorOf(1, 5), 0);
        due("undo of the mark", x.undo(), 1);
        due("the mark then", x.editorOf(1, 5), 1);
    }

    @Sentence(of = "Promise 23", says = "also if there are none.")
    void promise23RecordedAlsoIfThereAreNone() {
        due("none", x.play(), 0);
        due("one state", x.count(5), 1);
        x.insert(0, 0, 0);
        for (int i = 0; i < 4; i++) {
            x.play();
        }
        for (int i = 3; i >= 0; i--) {
            due("undo", x.undo(), i);
            text(0, "a");
        }
        due("the others were dropped", x.undo(), NOT_POSSIBLE);
    }

    @Sentence(of = "Promise 23", says = "Returns how many there are in it;")
    void promise23ReturnsHowManyThereAre() {
        due("of an empty text", x.play(), 0);
        typed("i0,0,0;");
        due("one", x.play(), 1);
        typed("i0,0,0;s0;");
        due("two", x.play(), 2);
        anew();
        publish(0, 0, "abcdefghij");
        typed("h1;h1;h1;h1;h1;h1;h1;h1;h1;h1;h2;h2;h2;h2;h2;h2;h2;h2;h2;h2;");
        due("twenty of three characters each", x.play(), 20);
    }

    @Sentence(of = "Promise 23", says = "NOT_POSSIBLE if it has a fault.")
    void promise23NotPossibleIfItHasAFault() {
        typed("i0,0,7;s0;h0");
        due("of the form", x.play(), NOT_POSSIBLE);
        typed("i0,0,7;s0;h0;h0;");
        due("of a call", x.play(), NOT_POSSIBLE);
        text(0, "");
        due("nothing is recorded", x.count(5), 0);
        due("the text stays", x.count(6), 16);
        typed("i0,0,7;s0;h0;");
        due("of none", x.play(), 3);
        due("none again", x.play(), 3);
        text(0, "hh");
    }
}
