/** Counts the answers that are not as due, for the main method of a test to end with. */
final class Due {
    private final String test;
    private int asked;
    private int wrong;

    Due(String test) {
        this.test = test;
    }

    void is(String call, long want, long got) {
        asked++;
        if (want == got) return;
        wrong++;
        if (wrong <= 50) System.out.println(test + ": " + call + " answered " + got + ", due is " + want);
    }

    void end() {
        System.out.println(test + ": " + asked + " answers, " + wrong + " not as due");
        if (wrong != 0) System.exit(1);
    }

    /** Feeds a text in pieces of up to eight bytes; the last answer of feed. */
    static int feed(LastSeen seen, String text) {
        int answer = 0;
        for (int from = 0; from < text.length(); from += 8) {
            String piece = text.substring(from, Math.min(from + 8, text.length()));
            long bytes = 0;
            for (int i = 0; i < piece.length(); i++) bytes = bytes << 8 | piece.charAt(i) & 255;
            answer = seen.feed(bytes, piece.length());
        }
        return answer;
    }

    static int name(LastSeen seen, String text) {
        feed(seen, text);
        return seen.name();
    }

    static int rule(LastSeen seen, String text) {
        feed(seen, text);
        return seen.rule();
    }

    /** A commission that has heard these NAMES. */
    static LastSeen with(String... names) {
        LastSeen seen = new LastSeen();
        for (String text : names) name(seen, text);
        return seen;
    }

    /** The KEY of a NAME as a text. */
    static String key(LastSeen seen, int name) {
        StringBuilder text = new StringBuilder();
        for (int i = 0; i < seen.key(name, -1); i++) text.append((char) ('a' + seen.key(name, i)));
        return text.toString();
    }
}
