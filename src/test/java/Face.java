/** The calls of the document's face, in its order: promise 1 is the constructor, promise 2 the first of them. */
final class Face {
    static final String[] CALLS = {
        "int type(int)", "int wipe()", "int undo()", "int fault()", "int peg(int, int)", "int hide(int, int)",
        "int set(int, int)", "int read(int)", "int far(int, int)", "int web(int, int, int)",
        "int length(int, int, int)", "int crosses(int, int)", "int hangs(int, int, int)",
        "int pieces(int, int, int)", "int turned(int, int)", "int more(int, int, int, int)", "int begin(int)",
        "int last(int, int, int, int)", "int two(int, int, int, int, int)", "int seen(int, int, int)",
        "int forget()", "int fits()", "int tells()", "int flies(int, int, int, int)", "int dew(int, int, int)",
        "int sheet(int, int, int)", "int lose(int)", "int put(int, int, int, int)", "int get(int, int, int)",
        "int copy(int, int, int, int, int)", "int write(int, int, int)", "int count(int)", "long digest()"
    };

    private Face() {
    }

    static String name(String call) {
        return call.substring(call.indexOf(' ') + 1, call.indexOf('('));
    }

    /** "promise 11" for web: the words by which a reader finds it in the document. */
    static String promise(String name) {
        for (int i = 0; i < CALLS.length; i++) {
            if (name(CALLS[i]).equals(name)) {
                return "promise " + (i + 2);
            }
        }
        return "no promise";
    }
}
