/** Terms: letters, editors, the kinds of changes, and how one is reshaped by another. */
final class ChangeTests extends SentenceTests {
    private static final int PUT_IN = 1;
    private static final int TAKE_OUT = 2;
    private static final int LENGTH = 5;

    @Sentence(of = "Terms", says = "All numbers are whole numbers.")
    void termsNumbersAreWhole() {
        due("insert", x.insert(0, 0, 7), 1);
        due("letter", x.letter(0, 0), 7);
    }

    @Sentence(of = "Terms", says = "Letters are told as 0 to 25, for a to z.")
    void termsLettersAre0To25() {
        for (int letter = 0; letter <= 25; letter++) {
            due("put in", x.insert(0, 0, letter), 1);
            due("told of the copy", x.letter(0, 0), letter);
            due("told of the row", x.waitingOf(0, 0, 2), letter);
            due("sent", x.send(0), 2 * letter + 1);
            due("told of the log", x.logOf(2 * letter, 2), letter);
            due("told of its text", x.letter(3, 0), letter);
            x.hear(0);
            due("taken out", x.delete(0, 0), letter);
            x.send(0);
            x.hear(0);
        }
        due("-1", x.insert(0, 0, -1), INVALID);
        due("26", x.insert(0, 0, 26), INVALID);
    }

    @Sentence(of = "Terms", says = "There are 3 editors, numbered from 0.")
    void termsThereAre3EditorsNumberedFrom0() {
        for (int editor = 0; editor < 3; editor++) {
            due("editor " + editor, x.insert(editor, 0, editor), 1);
        }
        due("editor -1", x.insert(-1, 0, 0), INVALID);
        due("editor 3", x.insert(3, 0, 0), INVALID);
        for (int editor = 0; editor < 3; editor++) {
            due("letter of " + editor, x.letter(editor, 0), editor);
        }
    }

    @Sentence(of = "Terms", says = "1: a letter is put in at a place (0 to the length of the text): "
            + "it stands at this place then, letters from there on are one place later;")
    void termsPutInAtAPlaceFrom0ToTheLength() {
        for (int place = 0; place <= 3; place++) {
            anew();
            write(0, 0, "abc");
            due("at " + place, x.insert(0, place, 25), 4);
            text(0, "abc".substring(0, place) + "z" + "abc".substring(place));
        }
        due("behind the length", x.insert(0, 5, 25), INVALID);
    }

    @Sentence(of = "Terms", says = "2: the letter at a place is taken out;")
    void termsTakenOutAtTheFirstAndTheLastPlace() {
        for (int place = 0; place < 3; place++) {
            anew();
            write(0, 0, "abc");
            due("at " + place, x.delete(0, place), place);
            text(0, "abc".substring(0, place) + "abc".substring(place + 1));
        }
    }

    @Sentence(of = "Terms", says = "0: nothing (it became nothing when it was reshaped).")
    void terms0IsAChangeThatBecameNothing() {
        common(2, "a");
        x.delete(0, 0);
        x.delete(1, 0);
        x.send(0);
        due("its kind ahead of that", x.waitingOf(1, 0, 0), 2);
        x.hear(1);
        due("its kind then", x.waitingOf(1, 0, 0), 0);
        due("it is sent all the same", x.send(1), 3);
        due("its kind in the log", x.logOf(2, 0), 0);
        text(3, "");
        text(1, "");
    }

    @Sentence(of = "Terms", says = "A change has its editor.")
    void termsAChangeHasItsEditorAlsoIfItIsNothing() {
        for (int editor = 0; editor < 3; editor++) {
            anew();
            int other = (editor + 1) % 3;
            common(editor, "a");
            due("of one that puts in", x.logOf(0, 3), editor);
            x.delete(other, 0);
            x.delete(editor, 0);
            x.send(other);
            x.send(editor);
            due("of one that takes out", x.logOf(1, 3), other);
            due("its kind", x.logOf(2, 0), 0);
            due("of one that is nothing", x.logOf(2, 3), editor);
        }
    }

    private void write(int editor, int kind, int place, int letter) {
        if (kind == PUT_IN) {
            x.insert(editor, place, letter);
        } else {
            x.delete(editor, place);
        }
    }

    private static int inOne(int kind, int place) {
        return kind == 0 ? 0 : kind * 100 + place;
    }

    /** A is sent when b is in the log already. */
    private int sentBehind(int a, int kindA, int p, int b, int kindB, int q) {
        common(3 - a - b, "abcde");
        write(a, kindA, p, 25);
        write(b, kindB, q, 24);
        x.send(b);
        int would = inOne(x.wouldSend(a, 0), x.wouldSend(a, 1));
        x.send(a);
        int sent = inOne(x.logOf(6, 0), x.logOf(6, 1));
        due("it was to be sent so", would, sent);
        return sent;
    }

    /** A waits when b is heard. */
    private int waitsBehind(int a, int kindA, int p, int b, int kindB, int q) {
        common(3 - a - b, "abcde");
        write(a, kindA, p, 25);
        write(b, kindB, q, 24);
        x.send(b);
        x.hear(a);
        return inOne(x.waitingOf(a, 0, 0), x.waitingOf(a, 0, 1));
    }

    /** A is heard by the editor of b, of whom b waits; the place is where the copy changed. */
    private int heardBehind(int a, int kindA, int p, int b, int kindB, int q) {
        common(3 - a - b, "abcde");
        write(a, kindA, p, 25);
        write(b, kindB, q, 24);
        x.send(a);
        String before = textOf(b) + " ";
        int kind = x.hear(b);
        String behind = textOf(b) + " ";
        int place = 0;
        while (place < before.length() - 1 && before.charAt(place) == behind.charAt(place)) {
            place++;
        }
        return inOne(kind, place);
    }

    /** A can be taken back when b is heard: the change ahead of it was its opposite. */
    private int takenBackBehind(int a, int kindA, int p, int b, int kindB, int q) {
        common(3 - a - b, kindA == PUT_IN ? "abcdef" : "abcd");
        write(a, PUT_IN + TAKE_OUT - kindA, p, 25);
        x.send(a);
        hearEverywhere();
        write(b, kindB, q, 24);
        x.send(b);
        x.hear(a);
        int kind = x.takeBack(a);
        due("it is written so", x.waitingOf(a, 0, 0), kind == 0 ? NOT_FOUND : kind);
        return inOne(kind, x.waitingOf(a, 0, 1));
    }

    private void reshapedOf(int a, int kindA, int p, int b, int kindB, int q, int want) {
        String which = (kindA == PUT_IN ? "put in" : "take out") + " at " + p + " of " + a + " by "
                + (kindB == PUT_IN ? "put in" : "take out") + " at " + q + " of " + b;
        anew();
        due(which + ", sent", sentBehind(a, kindA, p, b, kindB, q), want);
        anew();
        due(which + ", waiting", waitsBehind(a, kindA, p, b, kindB, q), want);
        anew();
        due(which + ", heard", heardBehind(a, kindA, p, b, kindB, q), want);
        anew();
        due(which + ", taken back", takenBackBehind(a, kindA, p, b, kindB, q), want);
    }

    /** For each two editors of which a has a lower, or a higher, number than b. */
    private void reshaped(boolean lower, int kindA, int p, int kindB, int q, int want) {
        for (int a = 0; a < 3; a++) {
            for (int b = 0; b < 3; b++) {
                if (a != b && (a < b) == lower) {
                    reshapedOf(a, kindA, p, b, kindB, q, want);
                }
            }
        }
    }

    private void reshaped(int kindA, int p, int kindB, int q, int want) {
        reshaped(true, kindA, p, kindB, q, want);
        reshaped(false, kindA, p, kindB, q, want);
    }

    @Sentence(of = "Terms", says = "a puts in at p, b puts in at q: if q is below p")
    void termsPutInByPutInBelow() {
        reshaped(PUT_IN, 1, PUT_IN, 0, 102);
        reshaped(PUT_IN, 3, PUT_IN, 2, 104);
        reshaped(PUT_IN, LENGTH, PUT_IN, LENGTH - 1, 106);
        reshaped(PUT_IN, LENGTH, PUT_IN, 0, 106);
    }

    @Sentence(of = "Terms", says = "or the same and the editor of b has a lower number than that "
            + "of a, a puts in at p + 1;")
    void termsPutInByPutInAtTheSamePlaceOfALowerNumber() {
        for (int place = 0; place <= LENGTH; place++) {
            reshaped(false, PUT_IN, place, PUT_IN, place, 101 + place);
        }
    }

    @Sentence(of = "Terms", says = "- a puts in at p, b puts in at q: if q is below p, or the same "
            + "and the editor of b has a lower number than that of a, a puts in at p + 1; "
            + "otherwise it stays.")
    void termsPutInByPutInAtTheSamePlaceOfAHigherNumberOrAbove() {
        for (int place = 0; place <= LENGTH; place++) {
            reshaped(true, PUT_IN, place, PUT_IN, place, 100 + place);
        }
        reshaped(PUT_IN, 0, PUT_IN, 1, 100);
        reshaped(PUT_IN, 2, PUT_IN, 3, 102);
        reshaped(PUT_IN, LENGTH - 1, PUT_IN, LENGTH, 104);
        reshaped(PUT_IN, 0, PUT_IN, LENGTH, 100);
    }

    @Sentence(of = "Terms", says = "the editor of b has a lower number than that of a")
    void termsPutInByAnOwnPutInAtTheSamePlaceStays() {
        // The b is to be put in again at place 1, where z was put in then; so it stands ahead of
        // y, if y stands there by a higher number, and behind it otherwise.
        for (int editor = 0; editor < 3; editor += 2) {
            anew();
            common(1, "abc");
            x.delete(editor, 1);
            x.insert(editor, 1, 25);
            flush(editor);
            x.hearAll(1);
            x.insert(1, 1, 24);
            x.send(1);
            x.hear(editor);
            text(editor, "ayzc");
            x.takeBack(editor);
            due("put in again", x.takeBack(editor), 1);
            text(editor, editor < 1 ? "abyc" : "aybc");
        }
    }

    @Sentence(of = "Terms", says = "- a puts in at p, b takes out at q: if q is below p, a puts in "
            + "at p - 1;")
    void termsPutInByTakeOutBelow() {
        reshaped(PUT_IN, 1, TAKE_OUT, 0, 100);
        reshaped(PUT_IN, 3, TAKE_OUT, 2, 102);
        reshaped(PUT_IN, LENGTH, TAKE_OUT, LENGTH - 1, 104);
        reshaped(PUT_IN, LENGTH, TAKE_OUT, 0, 104);
    }

    @Sentence(of = "Terms", says = "- a puts in at p, b takes out at q: if q is below p, a puts in "
            + "at p - 1; otherwise it stays.")
    void termsPutInByTakeOutAtTheSamePlaceOrAbove() {
        for (int place = 0; place < LENGTH; place++) {
            reshaped(PUT_IN, place, TAKE_OUT, place, 100 + place);
        }
        reshaped(PUT_IN, 0, TAKE_OUT, 1, 100);
        reshaped(PUT_IN, 3, TAKE_OUT, 4, 103);
        reshaped(PUT_IN, 0, TAKE_OUT, LENGTH - 1, 100);
    }

    @Sentence(of = "Terms", says = "- a takes out at p, b puts in at q: if q is at most p, a takes "
            + "out at p + 1;")
    void termsTakeOutByPutInAtTheSamePlaceOrBelow() {
        for (int place = 0; place < LENGTH; place++) {
            reshaped(TAKE_OUT, place, PUT_IN, place, 201 + place);
        }
        reshaped(TAKE_OUT, 1, PUT_IN, 0, 202);
        reshaped(TAKE_OUT, 4, PUT_IN, 3, 205);
        reshaped(TAKE_OUT, 4, PUT_IN, 0, 205);
    }

    @Sentence(of = "Terms", says = "- a takes out at p, b puts in at q: if q is at most p, a takes "
            + "out at p + 1; otherwise it stays.")
    void termsTakeOutByPutInAbove() {
        reshaped(TAKE_OUT, 0, PUT_IN, 1, 200);
        reshaped(TAKE_OUT, 2, PUT_IN, 3, 202);
        reshaped(TAKE_OUT, LENGTH - 1, PUT_IN, LENGTH, 204);
        reshaped(TAKE_OUT, 0, PUT_IN, LENGTH, 200);
    }

    @Sentence(of = "Terms", says = "- a takes out at p, b takes out at q: if q is below p, a takes "
            + "out at p - 1;")
    void termsTakeOutByTakeOutBelow() {
        reshaped(TAKE_OUT, 1, TAKE_OUT, 0, 200);
        reshaped(TAKE_OUT, 3, TAKE_OUT, 2, 202);
        reshaped(TAKE_OUT, LENGTH - 1, TAKE_OUT, 0, 203);
    }

    @Sentence(of = "Terms", says = "if it is the same, a becomes nothing;")
    void termsTakeOutByTakeOutAtTheSamePlace() {
        for (int place = 0; place < LENGTH; place++) {
            reshaped(TAKE_OUT, place, TAKE_OUT, place, 0);
        }
    }

    @Sentence(of = "Terms", says = "- a takes out at p, b takes out at q: if q is below p, a takes "
            + "out at p - 1; if it is the same, a becomes nothing; otherwise it stays.")
    void termsTakeOutByTakeOutAbove() {
        reshaped(TAKE_OUT, 0, TAKE_OUT, 1, 200);
        reshaped(TAKE_OUT, 2, TAKE_OUT, 3, 202);
        reshaped(TAKE_OUT, 0, TAKE_OUT, LENGTH - 1, 200);
    }

    /** The editors b and c take the same letter out; b's, which is nothing, is last in the log. */
    private void nothingAtTheEnd(int a, int b, int place) {
        int c = 3 - a - b;
        x.delete(c, place);
        x.delete(b, place);
        x.send(c);
        x.hear(a);
        x.send(b);
        due("the last one is nothing", x.logOf(x.count(0) - 1, 0), 0);
    }

    @Sentence(of = "Terms", says = "A change a is reshaped by a change b (both are of one "
            + "text; a is to be done behind b then):")
    void termsReshapedIsForOneThatIsDoneBehindTheOther() {
        common(2, "abcde");
        x.insert(0, 2, 25);
        x.delete(1, 3);
        x.send(0);
        x.send(1);
        hearEverywhere();
        for (int whose = 0; whose <= 3; whose++) {
            text(whose, "abzce");
        }
    }

    @Sentence(of = "Terms", says = "- if b is nothing, a stays;")
    void termsReshapedByNothingStays() {
        for (int a = 0; a < 3; a++) {
            int b = (a + 1) % 3;
            for (int place = 0; place < 4; place++) {
                for (int kind = PUT_IN; kind <= TAKE_OUT; kind++) {
                    anew();
                    common(b, "abcde");
                    nothingAtTheEnd(a, b, 2);
                    write(a, kind, place, 25);
                    due("sent behind nothing", x.send(a), 8);
                    due("its kind", x.logOf(7, 0), kind);
                    due("its place", x.logOf(7, 1), place);
                    anew();
                    common(b, "abcde");
                    nothingAtTheEnd(a, b, 2);
                    write(a, kind, place, 25);
                    String before = textOf(a);
                    due("nothing is heard", x.hear(a), 0);
                    due("kind of what waits", x.waitingOf(a, 0, 0), kind);
                    due("place of what waits", x.waitingOf(a, 0, 1), place);
                    text(a, before);
                    due("what can be taken back", x.takeBack(a), PUT_IN + TAKE_OUT - kind);
                    due("is at its place", x.waitingOf(a, 1, 1), place);
                }
            }
        }
    }

    @Sentence(of = "Terms", says = "if a is nothing, it stays so.")
    void termsNothingStaysNothing() {
        for (int kind = PUT_IN; kind <= TAKE_OUT; kind++) {
            for (int place = 0; place < 4; place++) {
                anew();
                common(2, "abcde");
                x.delete(0, 2);
                x.delete(2, 2);
                x.send(2);
                x.hearAll(0);
                due("it waits as nothing", x.waitingOf(0, 0, 0), 0);
                x.hear(1);
                write(1, kind, place, 25);
                x.send(1);
                due("it would be nothing in the log", x.wouldSend(0, 0), 0);
                due("heard behind it", x.hear(0), kind);
                due("it still waits as nothing", x.waitingOf(0, 0, 0), 0);
                due("it has no place", x.waitingOf(0, 0, 1), NOT_FOUND);
                due("it is sent", x.send(0), 8);
                due("as nothing", x.logOf(7, 0), 0);
            }
        }
    }

    @Sentence(of = "Terms", says = "if a is nothing, it stays so.")
    void termsNothingThatCanBeTakenBackStaysNothing() {
        for (int kind = PUT_IN; kind <= TAKE_OUT; kind++) {
            for (int place = 0; place < 3; place++) {
                anew();
                common(2, "abc");
                publish(0, 3, "z");
                x.hearAll(1);
                x.delete(1, 3);
                x.send(1);
                x.hear(1);
                x.hear(0);
                write(1, kind, place, 25);
                x.send(1);
                x.hear(0);
                due("it is nothing still", x.takeBack(0), 0);
            }
        }
    }
}
