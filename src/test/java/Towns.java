/** Texts of towns that several tests use. */
final class Towns {
    private Towns() {
    }

    /** As many WINDOWS, none of which SEES another one. */
    static String apart(int windows) {
        StringBuilder text = new StringBuilder("S01231");
        for (int window = 0; window < windows; window++) {
            text.append('W').append(window).append("0000");
        }
        return text.toString();
    }

    /** Each SEES the one before and the one behind; all say word 0. */
    static String line(String kinds) {
        StringBuilder text = new StringBuilder("S01231");
        for (int window = 0; window < kinds.length(); window++) {
            text.append('W').append(window).append(window % 2).append("00").append(kinds.charAt(window));
        }
        return text.toString();
    }

    /** Pairs that SEE each other: 0-1, 0-3, 1-2, 2-3, 2-5, 3-4, 4-5. */
    static String ring(String kinds) {
        return "S01231W0000" + kinds.charAt(0) + "W0101" + kinds.charAt(1) + "W1002" + kinds.charAt(2)
            + "W1103" + kinds.charAt(3) + "W2002" + kinds.charAt(4) + "W2101" + kinds.charAt(5);
    }

    /** Two that SEE each other, in those STATES and of those KINDS. */
    static String two(String code, int state, int kind, int otherState, int otherKind) {
        return "S" + code + "1W000" + state + kind + "W010" + otherState + otherKind;
    }
}
