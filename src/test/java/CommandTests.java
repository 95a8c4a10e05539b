/** Texts. */
final class CommandTests extends SentenceTests {
    @Sentence(of = "Texts", says = "There is a text of at most 60 characters, initially empty:")
    void textsHave60CharactersAtMost() {
        due("initially", x.count(6), 0);
        due("initially without a fault", x.fault(0), NOT_FOUND);
        for (int i = 1; i <= 60; i++) {
            due("character " + i, x.type('s'), i);
        }
        due("a 61st", x.type('s'), LIMIT);
        due("its length", x.count(6), 60);
    }

    @Sentence(of = "Texts", says = "There is a text of at most 60 characters")
    void textsOf60CharactersAreDone() {
        typed("s0;s0;s0;s0;s0;s0;s0;s0;s0;s0;s0;s0;s0;s0;s0;s0;s0;s0;s0;s0;");
        due("the first one is at fault", x.fault(0), 0);
        write(0, 0, "a");
        due("the second one is", x.fault(0), 3);
        anew();
        typed("i0,0,1;i1,0,1;i2,0,1;i0,0,1;i1,0,1;i2,0,1;s0;s1;s2;h0;h1;h2;");
        due("its length", x.count(6), 60);
        due("its fault", x.fault(0), NOT_FOUND);
        due("its commands", x.play(), 12);
        due("the log", x.count(0), 3);
        due("the last command was done", x.editorOf(2, 3), 1);
        // Twenty commands, of which the last one alone is at fault.
        anew();
        publish(1, 0, "abcdefghijklmnopqrs");
        typed("h0;h0;h0;h0;h0;h0;h0;h0;h0;h0;h0;h0;h0;h0;h0;h0;h0;h0;h0;h0;");
        due("position of the twentieth", x.fault(0), 57);
        due("its reason", x.fault(1), 2);
        publish(1, 19, "t");
        due("none is at fault", x.fault(0), NOT_FOUND);
        due("twenty commands", x.play(), 20);
        text(0, "abcdefghijklmnopqrst");
    }

    @Sentence(of = "Texts", says = "commands, each followed by \";\"")
    void textsOfCommandsEachFollowedByASemicolon() {
        fault("i0,0,1", 0, 1, NOT_FOUND);
        fault("i0,0,1;s0", 7, 1, NOT_FOUND);
        fault("i0,0,1;s0;h0", 10, 1, NOT_FOUND);
        fault("i0,0,1s0;", 0, 1, NOT_FOUND);
        fault("i0,0,1 s0;", 0, 1, NOT_FOUND);
        fault("i0,0,1,s0;", 0, 1, NOT_FOUND);
        fault("i0,0,1;;s0;", 7, 1, NOT_FOUND);
        fault(";i0,0,1;", 0, 1, NOT_FOUND);
        fault("i0,0,1:", 0, 1, NOT_FOUND);
        noFault("i0,0,1;s0;");
    }

    @Sentence(of = "Texts", says = "of one letter and numbers")
    void textsOfOneLetter() {
        for (int sign = 32; sign <= 126; sign++) {
            if ("idshb".indexOf(sign) < 0) {
                anew();
                typed((char) sign + "0;");
                due("reason of " + (char) sign + "0;", x.fault(1), 1);
                due("position", x.fault(0), 0);
                typed((char) sign + "0,0,0;");
                due("reason of " + (char) sign + "0,0,0;", x.fault(1), 1);
                typed((char) sign + "0,0;");
                due("reason of " + (char) sign + "0,0;", x.fault(1), 1);
                typed((char) sign + ";");
                due("reason of " + (char) sign + ";", x.fault(1), 1);
            }
        }
        anew();
        wrongForm("ii0,0,0;");
        wrongForm("0,0,0;");
        wrongForm("ss0;");
        wrongForm("0;");
        wrongForm("i 0,0,0;");
        wrongForm(" i0,0,0;");
        wrongForm("I0,0,0;");
        wrongForm("S0;");
    }

    @Sentence(of = "Texts", says = "numbers of one or two digits")
    void textsWithNumbersOfOneOrTwoDigits() {
        common(0, "abcdefghijk");
        noFault("i0,10,25;");
        noFault("i00,09,09;");
        fault("i0,12,25;", 0, 2, INVALID);
        anew();
        wrongForm("i0,0,;");
        wrongForm("i,0,0;");
        wrongForm("i0,,0;");
        wrongForm("i0,0,000;");
        wrongForm("i0,000,0;");
        wrongForm("i000,0,0;");
        wrongForm("i0,0,001;");
        wrongForm("i0,0,100;");
        wrongForm("s000;");
        wrongForm("s;");
        wrongForm("s-1;");
        wrongForm("s+1;");
        wrongForm("s1.;");
        wrongForm("s1 ;");
        wrongForm("s 1;");
        wrongForm("s/;");
        wrongForm("s:;");
        wrongForm("s0/;");
        wrongForm("s0:;");
        wrongForm("sa;");
        fault("s99;", 0, 2, INVALID);
    }

    @Sentence(of = "Texts", says = "with \",\" between two:")
    void textsWithACommaBetweenTwo() {
        wrongForm("i0;0;0;");
        wrongForm("i0.0.0;");
        wrongForm("i0 0 0;");
        wrongForm("i0,0.0;");
        wrongForm("i0, 0,0;");
        wrongForm("i0 ,0,0;");
        wrongForm("i0,,0,0;");
        wrongForm("i,0,0,0;");
        wrongForm("i0,0,0,;");
        wrongForm("i000;");
        wrongForm("s,0;");
        wrongForm("s0,;");
        noFault("i0,0,0;");
    }

    @Sentence(of = "Texts", says = "\"i\" an editor, a place, a letter (put in)")
    void textsIHasThreeNumbers() {
        wrongForm("i;");
        wrongForm("i0;");
        wrongForm("i0,0;");
        wrongForm("i0,0,0,0;");
        typed("i2,0,25;i2,1,0;i2,1,7;");
        due("three", x.play(), 3);
        text(2, "zha");
        text(0, "");
        waits(2, 2, 1, 1, 7);
    }

    @Sentence(of = "Texts", says = "\"d\" an editor, a place (taken out)")
    void textsDHasTwoNumbers() {
        common(0, "abc");
        wrongForm("d;");
        wrongForm("d0;");
        wrongForm("d0,0,0;");
        typed("d1,2;d1,0;");
        due("two", x.play(), 2);
        text(1, "b");
        waits(1, 1, 2, 0, NOT_FOUND);
    }

    @Sentence(of = "Texts", says = "\"s\" an editor (sent)")
    void textsSHasOneNumber() {
        write(1, 0, "a");
        wrongForm("s;");
        wrongForm("s1,0;");
        typed("s1;");
        due("one", x.play(), 1);
        due("it is sent", x.count(0), 1);
        due("and under way", x.editorOf(1, 2), 1);
    }

    @Sentence(of = "Texts", says = "\"h\" an editor (heard)")
    void textsHHasOneNumberAndHearsOneChange() {
        publish(1, 0, "ab");
        wrongForm("h;");
        wrongForm("h2,0;");
        typed("h2;");
        due("one", x.play(), 1);
        text(2, "a");
        due("another one", x.play(), 1);
        text(2, "ab");
        due("no third", x.fault(2), NOT_POSSIBLE);
    }

    @Sentence(of = "Texts", says = "\"b\" an editor (taken back);")
    void textsBHasOneNumber() {
        common(1, "ab");
        wrongForm("b;");
        wrongForm("b1,0;");
        typed("b1;");
        due("one", x.play(), 1);
        text(1, "a");
        due("another one", x.play(), 1);
        text(1, "");
        due("no third", x.fault(2), NOT_POSSIBLE);
        anew();
        common(0, "a");
        x.delete(1, 0);
        x.send(1);
        x.hear(0);
        typed("b0;");
        due("of one that became nothing", x.play(), 1);
        due("none is left", x.editorOf(0, 6), 0);
    }

    @Sentence(of = "Texts", says = "0 ahead is allowed.")
    void texts0AheadIsAllowed() {
        noFault("i00,00,05;i01,0,00;s00;s01;h00;d00,00;b00;");
        due("seven", x.play(), 7);
        text(0, "f");
        text(1, "a");
    }

    @Sentence(of = "Texts", says = "The fault of the text is the position, from 0, of the first "
            + "character of the first command that is not possible")
    void textsFaultIsThePositionOfTheFirstCommandAtFault() {
        fault("s0;", 0, 2, NOT_POSSIBLE);
        fault("i0,0,0;s1;", 7, 2, NOT_POSSIBLE);
        fault("i0,0,0;s0;s0;?", 10, 2, NOT_POSSIBLE);
        fault("i0,0,0;s0;?;s0;", 10, 1, NOT_FOUND);
        fault("s0;i0,0,0", 0, 2, NOT_POSSIBLE);
        fault("i0,00,0;d00,1;", 8, 2, INVALID);
        fault("i0,0,0;s0;h0;i0,1,26;", 13, 2, INVALID);
        fault("i0,0,0;s0;h0;i0,1,", 13, 1, NOT_FOUND);
    }

    @Sentence(of = "Texts", says = "when those ahead of it are done;")
    void textsFaultIsWithThoseAheadDone() {
        noFault("i0,0,0;i0,1,1;s0;h1;d1,0;s1;h0;h0;");
        fault("i0,1,0;", 0, 2, INVALID);
        fault("i0,0,0;d0,0;d0,0;", 12, 2, INVALID);
        fault("i0,0,0;b0;b0;", 10, 2, NOT_POSSIBLE);
        due("nothing is done by it", x.editorOf(0, 0), 0);
        due("nothing is in the log", x.count(0), 0);
        due("nothing is recorded", x.count(5), 0);
        x.insert(0, 0, 0);
        due("what was done by calls counts, too", x.fault(0), NOT_FOUND);
        typed("b0;b0;");
        due("one can be taken back", x.fault(0), 3);
        due("and asking does not take it back", x.fault(0), 3);
    }

    @Sentence(of = "Texts", says = "its reason is 1 if it is not of this form, its \";\" included, "
            + "and otherwise 2;")
    void textsReasonIs1IfTheFormIsWrongAlsoIfTheCallIs() {
        fault("s9", 0, 1, NOT_FOUND);
        fault("s9;", 0, 2, INVALID);
        fault("s0", 0, 1, NOT_FOUND);
        fault("s0;", 0, 2, NOT_POSSIBLE);
        fault("i9,9,99,;", 0, 1, NOT_FOUND);
        fault("i9,9,99;", 0, 2, INVALID);
    }

    @Sentence(of = "Texts", says = "its cause is then the error code that the call returns for it.")
    void textsCauseIsTheErrorOfTheCall() {
        fault("i3,0,0;", 0, 2, INVALID);
        fault("i0,1,0;", 0, 2, INVALID);
        fault("i0,0,26;", 0, 2, INVALID);
        fault("d3,0;", 0, 2, INVALID);
        fault("d0,0;", 0, 2, INVALID);
        fault("s3;", 0, 2, INVALID);
        fault("h3;", 0, 2, INVALID);
        fault("b3;", 0, 2, INVALID);
        fault("s1;", 0, 2, NOT_POSSIBLE);
        fault("h1;", 0, 2, NOT_POSSIBLE);
        fault("b1;", 0, 2, NOT_POSSIBLE);
        fault("i2,0,0;s2;s2;", 10, 2, NOT_POSSIBLE);
        write(0, 0, "abcdef");
        fault("i0,0,0;", 0, 2, LIMIT);
        fault("d0,5;", 0, 2, LIMIT);
        fault("b0;", 0, 2, LIMIT);
        fault("d0,6;", 0, 2, INVALID);
        anew();
        fillLog(0, 60);
        fault("i0,0,0;s0;", 7, 2, LIMIT);
        anew();
        publish(1, 0, "aaaaaaaaaaaaaaaaaaaaaaaaaaaaa");
        fault("i1,29,0;i1,30,0;", 8, 2, LIMIT);
    }
}
