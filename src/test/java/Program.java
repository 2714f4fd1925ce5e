/** Methods in the document's own words: "NEW 0 5; PUT 1 0 2; END", with "LENT: " before one that takes lent. */
final class Program {
    private static final String[] NAMES = {"NEW", "COPY", "NONE", "GET", "PUT", "OUT", "ADD", "ONLY", "OWN",
        "IFNONE", "GO", "CALL", "GIVE", "END"};
    /** Which of a, b and c stand behind each name. */
    private static final String[] SHAPES = {"ac", "ab", "a", "abc", "abc", "a", "ac", "a", "a", "ac", "c", "abc",
        "a", ""};
    private static final String LENT = "LENT:";

    private Program() {
    }

    /** A desk with these as methods 0, 1, .. */
    static Desk desk(String... methods) {
        Desk desk = new Desk();
        for (int m = 0; m < methods.length; m++) {
            lay(desk, m, methods[m]);
        }
        return desk;
    }

    /** Lays method m anew. */
    static void lay(Desk desk, int m, String text) {
        boolean isLent = text.startsWith(LENT);
        Checks.lay(desk, m, isLent, parse(isLent ? text.substring(LENT.length()) : text));
    }

    private static int[][] parse(String text) {
        if (text.isBlank()) {
            return new int[0][];
        }
        String[] parts = text.split(";");
        int[][] all = new int[parts.length][];
        for (int i = 0; i < parts.length; i++) {
            all[i] = instruction(parts[i].trim().split(" +"));
        }
        return all;
    }

    private static int[] instruction(String[] words) {
        int op = java.util.Arrays.asList(NAMES).indexOf(words[0]);
        if (op < 0 || SHAPES[op].length() != words.length - 1) {
            throw new IllegalArgumentException(String.join(" ", words));
        }
        int[] it = {op, 0, 0, 0};
        for (int w = 1; w < words.length; w++) {
            it[1 + SHAPES[op].charAt(w - 1) - 'a'] = Integer.parseInt(words[w]);
        }
        return it;
    }

    /** Sixteen instructions: from the first over a jump to the last, and from there jump by jump back to 2 and 3. */
    static String farBack(String first, String second, String third) {
        StringBuilder text = new StringBuilder(first + "; GO 15; " + second + "; " + third + "; END; GO 2");
        for (int i = 6; i < 16; i++) {
            text.append("; GO ").append(i - 1);
        }
        return text.toString();
    }

    /** A text many times over, each but the last with a semicolon behind it. */
    static String times(int many, String text) {
        return String.join("; ", java.util.Collections.nCopies(many, text));
    }
}
