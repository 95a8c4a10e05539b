/** A ReshapedTexts whose calls are counted: nothing is promised behind the 512th. */
final class Texts {
    static final int MOST_CALLS = 512;

    private final ReshapedTexts texts = new ReshapedTexts();
    private int calls;

    private ReshapedTexts next() {
        calls++;
        if (calls > MOST_CALLS) {
            throw new IllegalStateException("a test asks for a call behind the 512th");
        }
        return texts;
    }

    int calls() {
        return calls;
    }

    int insert(int editor, int place, int letter) {
        return next().insert(editor, place, letter);
    }

    int delete(int editor, int place) {
        return next().delete(editor, place);
    }

    int takeBack(int editor) {
        return next().takeBack(editor);
    }

    int mark(int editor, int place) {
        return next().mark(editor, place);
    }

    int send(int editor) {
        return next().send(editor);
    }

    int hear(int editor) {
        return next().hear(editor);
    }

    int hearAll(int editor) {
        return next().hearAll(editor);
    }

    int clear() {
        return next().clear();
    }

    int letter(int whose, int place) {
        return next().letter(whose, place);
    }

    int editorOf(int editor, int what) {
        return next().editorOf(editor, what);
    }

    int waitingOf(int editor, int index, int what) {
        return next().waitingOf(editor, index, what);
    }

    int logOf(int index, int what) {
        return next().logOf(index, what);
    }

    int by(int place) {
        return next().by(place);
    }

    int count(int what) {
        return next().count(what);
    }

    int inTheEnd(int order, int place) {
        return next().inTheEnd(order, place);
    }

    int both(int what) {
        return next().both(what);
    }

    int wouldSend(int editor, int what) {
        return next().wouldSend(editor, what);
    }

    int undo() {
        return next().undo();
    }

    int type(int character) {
        return next().type(character);
    }

    int clearText() {
        return next().clearText();
    }

    int fault(int what) {
        return next().fault(what);
    }

    int play() {
        return next().play();
    }
}
