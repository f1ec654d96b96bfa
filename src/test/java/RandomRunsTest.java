/** Runs of calls by a fixed row of numbers, each answer held against that of the document's second reading. */
public final class RandomRunsTest {
    private static final int CALLS = 511;
    private static final String[] SPELLED = {"kara", "qarrah", "cara", "phillip", "filip", "hanna", "anna", "ana",
        "bob", "bobb", "bab", "x", "h", "hh", "ph", "zofia", "sophia", "jana", "yana", "iana", "wladek", "vladec",
        "abcdefghijkl", "abcdefghijklm", "", "Anna"};
    private static final String[] FACTS = {"r.1", "r=0", "r<3", "e.1", "e=2", "h=0", "h.0", "c=0", "c=1", "n=1",
        "n.1", "l.50", "l<100", "k=1", "k.2", "r=12", "l=999"};

    private final Due due;
    private final int profile;
    private long seed;
    private LastSeen seen;
    private Plain plain;

    private RandomRunsTest(Due due, int profile, long seed) {
        this.due = due;
        this.profile = profile;
        this.seed = seed;
    }

    public static void main(String[] args) {
        Due due = new Due("RandomRunsTest");
        int runs = args.length > 0 ? Integer.parseInt(args[0]) : 25;
        int from = args.length > 1 ? Integer.parseInt(args[1]) : 0;
        for (int run = from; run < from + runs; run++) {
            for (int profile = 0; profile < 5; profile++) new RandomRunsTest(due, profile, run * 5L + profile).run();
        }
        due.end();
    }

    private int below(int n) {
        seed = seed * 6364136223846793005L + 1442695040888963407L;
        return (int) ((seed >>> 33) % n);
    }

    /** Mostly 0 .. n - 1, seldom a number near its edges or far off. */
    private int about(int n) {
        int chance = below(60);
        if (chance == 0) return -1 - below(2);
        if (chance == 1) return n + below(2);
        if (chance == 2 && below(8) == 0) return below(2) == 0 ? Integer.MAX_VALUE : Integer.MIN_VALUE;
        return n > 0 ? below(n) : 0;
    }

    private void run() {
        seen = new LastSeen();
        plain = new Plain();
        for (int i = 0; i < 5; i++) below(2);
        if (profile != 3) for (int i = 0; i < 4 + below(8); i++) feedName();
        for (int call = 0; call < CALLS; call++) {
            switch (profile) {
                case 0: any(); break;
                case 1: if (below(4) == 0) any(); else words(); break;
                case 2: if (below(4) == 0) any(); else graves(); break;
                case 4: naming(call); break;
                default: if (below(3) == 0) any(); else rules();
            }
        }
        for (int what = 0; what <= 11; what++) count(what);
    }

    private void any() {
        switch (below(5)) {
            case 0: land(); break;
            case 1: names(); break;
            case 2: words(); break;
            case 3: rules(); break;
            default: graves();
        }
        if (below(10) == 0) count(about(12));
    }

    private void is(String call, int want, int got) {
        due.is("profile " + profile + ", " + call, want, got);
    }

    private void count(int what) {
        is("count " + what, plain.count(what), seen.count(what));
    }

    private int name() {
        return about(plain.count(1));
    }

    private int by() {
        return below(2) == 0 ? -1 : about(plain.count(0) + 1);
    }

    private void land() {
        int a = about(profile == 1 ? 4 : 10);
        int b = about(profile == 1 ? 4 : 10);
        if (below(2) == 0) {
            int length = about(31);
            is("road", plain.road(a, b, length), seen.road(a, b, length));
        } else {
            is("far", plain.far(a, b), seen.far(a, b));
        }
    }

    private void feed(String text) {
        for (int from = 0; from < text.length();) {
            int n = Math.min(1 + below(8), text.length() - from);
            long w = below(2) - 1;
            for (int i = 0; i < n; i++) w = w << 8 | text.charAt(from + i);
            is("feed", plain.feed(w, n), seen.feed(w, n));
            from += n;
        }
    }

    private void feedName() {
        feed(SPELLED[below(SPELLED.length)]);
        is("name", plain.name(), seen.name());
        if (plain.count(11) > 0) is("rule", plain.rule(), seen.rule());
    }

    private void names() {
        int a = name();
        int b = name();
        int e = by();
        switch (below(10)) {
            case 0: feedName(); break;
            case 1: is("join", plain.join(a, b), seen.join(a, b)); break;
            case 2: is("part", plain.part(a, b), seen.part(a, b)); break;
            case 3: is("link", plain.link(a, b, e), seen.link(a, b, e)); break;
            case 4: is("person", plain.person(a, e), seen.person(a, e)); break;
            case 5: allKey(a); break;
            case 6: feedAnything(); break;
            default: allTies();
        }
    }

    private void feedAnything() {
        int n = about(10);
        long w = (long) below(Integer.MAX_VALUE) * below(Integer.MAX_VALUE);
        is("feed", plain.feed(w, n), seen.feed(w, n));
    }

    private void allKey(int name) {
        for (int i = -2; i <= 13; i++) is("key " + i, plain.key(name, i), seen.key(name, i));
    }

    private void allTies() {
        int a = name();
        int b = name();
        for (int what = -2; what <= 5; what++) is("tie " + what, plain.tie(a, b, what), seen.tie(a, b, what));
    }

    private void addWord() {
        int witness = about(profile == 1 ? 5 : 30);
        int name = name();
        int places = profile == 1 ? about(16) : about(1024);
        if (below(2) == 0) places = 1 << below(profile == 1 ? 4 : 10);
        int first = about(below(10) == 0 ? 1000 : 100);
        int last = first + about(below(3) == 0 ? 40 : 8);
        int of = below(5) < 3 ? -1 : about(plain.count(3));
        is("word", plain.word(witness, name, places, first, last, of),
            seen.word(witness, name, places, first, last, of));
    }

    private void words() {
        int name = name();
        int e = by();
        int word = about(plain.count(3));
        int i = about(9) - 1;
        switch (below(16)) {
            case 0: case 1: case 2: addWord(); break;
            case 3: if (below(3) == 0) is("withdraw", plain.withdraw(word), seen.withdraw(word)); break;
            case 4: for (int what = -1; what <= 3; what++) {
                is("about " + what, plain.about(word, e, what), seen.about(word, e, what));
            } break;
            case 5: is("root", plain.root(name, e, i), seen.root(name, e, i)); break;
            case 6: is("eyes", plain.eyes(name, e), seen.eyes(name, e)); break;
            case 7: is("can", plain.can(name, e), seen.can(name, e)); break;
            case 8: case 9: is("quarrel", plain.quarrel(name, e, i), seen.quarrel(name, e, i)); break;
            case 10: case 11: case 12: could(name, e); break;
            case 13: is("last", plain.last(name, e), seen.last(name, e)); break;
            default: land();
        }
    }

    private void could(int name, int e) {
        int place = about(profile == 1 ? 4 : 10);
        int watch = about(below(4) == 0 ? 1000 : 140);
        is("could", plain.could(name, e, place, watch), seen.could(name, e, place, watch));
    }

    private String when(int depth) {
        StringBuilder text = new StringBuilder();
        for (int i = below(3); i >= 0; i--) {
            if (below(4) == 0) text.append('!');
            if (depth > 0 && below(3) == 0) text.append('(').append(when(depth - 1)).append(')');
            else text.append(FACTS[below(FACTS.length)]);
            if (i > 0) text.append(below(2) == 0 ? '&' : '|');
        }
        return text.toString();
    }

    private String ruleText() {
        StringBuilder text = new StringBuilder();
        int clauses = below(6) == 0 ? 8 + below(2) : below(4);
        for (int i = 0; i < clauses; i++) {
            text.append(clauses > 4 ? FACTS[below(FACTS.length)] : when(2)).append('>').append(below(10)).append(';');
        }
        text.append("else>").append(below(10));
        int harm = below(6);
        int place = below(text.length());
        String signs = "rehcnlk!()&|<=.>;0123456789else x";
        char sign = signs.charAt(below(signs.length()));
        if (harm == 0) text.setCharAt(place, sign);
        if (harm == 1) text.insert(place, sign);
        if (harm == 2) text.deleteCharAt(place);
        if (harm == 3 && below(3) == 0) text.setLength(place);
        return text.toString();
    }

    private void rules() {
        int name = name();
        int e = by();
        int finding = about(plain.count(6));
        switch (below(10)) {
            case 0: if (below(3) == 0) {
                feed(ruleText());
                is("rule", plain.rule(), seen.rule());
            } break;
            case 1: is("finding", plain.finding(name, e), seen.finding(name, e)); break;
            case 2: if (below(2) == 0) is("find", plain.find(name), seen.find(name)); break;
            case 3: is("found 3", plain.found(finding, 3), seen.found(finding, 3)); break;
            case 4: int what = about(20);
                is("found " + what, plain.found(finding, what), seen.found(finding, what)); break;
            case 5: if (below(4) == 0) count(7); break;
            case 6: feedName(); break;
            default: if (below(3) == 0) names(); else words();
        }
    }

    private int marks() {
        return below(3) > 0 ? 0 : about(256) & (below(8) == 0 ? -1 : 7);
    }

    private int height() {
        return below(5) == 0 ? 0 : 100 + about(below(6) == 0 ? 121 : 40);
    }

    private void graves() {
        int name = name();
        int set = about(plain.count(8));
        int bits = about(1 << plain.count(8));
        switch (below(14)) {
            case 0: case 1: addBone(); break;
            case 2: if (below(3) == 0) bound(); break;
            case 3: int grave = about(4);
                is("least", plain.least(grave), seen.least(grave)); break;
            case 4: if (below(3) == 0) addSet(); break;
            case 5: addMissing(name); break;
            case 6: is("fit", plain.fit(set, name), seen.fit(set, name)); break;
            case 7: is("namings", plain.namings(bits), seen.namings(bits)); break;
            case 8: is("only", plain.only(set, bits), seen.only(set, bits)); break;
            case 9: is("why", plain.why(bits), seen.why(bits)); break;
            case 10: is("give", plain.give(set), seen.give(set)); break;
            case 11: if (below(3) == 0) is("take", plain.take(set), seen.take(set)); break;
            case 12: is("named", plain.named(set), seen.named(set)); break;
            default: names();
        }
    }

    /** SETS that one or two FIT, so that many are NAMED, and JOININGS and PARTINGS of those who are. */
    private void naming(int call) {
        if (call < 20) {
            if (below(2) == 0) addNarrowSet(); else addMissingAt(name(), 100 + 10 * below(6));
            return;
        }
        int a = name();
        int b = name();
        int set = about(plain.count(8));
        switch (below(16)) {
            case 0: case 1: is("join", plain.join(a, b), seen.join(a, b)); break;
            case 2: is("part", plain.part(a, b), seen.part(a, b)); break;
            case 3: addNarrowSet(); break;
            case 4: addMissingAt(a, below(4) == 0 ? 0 : 100 + 10 * below(6)); break;
            case 5: if (below(5) == 0) is("take", plain.take(set), seen.take(set)); break;
            case 6: if (below(3) == 0) names(); else graves(); break;
            case 7: case 8: case 9: case 10: is("give", plain.give(set), seen.give(set)); break;
            case 11: is("named", plain.named(set), seen.named(set)); break;
            default: allOf(about(1 << plain.count(8)));
        }
    }

    private void addNarrowSet() {
        int low = 100 + 10 * below(6);
        int high = low + 10 * below(3);
        int grave = below(3);
        is("set", plain.set(grave, low, high, 0, 0), seen.set(grave, low, high, 0, 0));
    }

    private void addMissingAt(int name, int height) {
        is("missing", plain.missing(name, height, 0, 0), seen.missing(name, height, 0, 0));
    }

    private void allOf(int bits) {
        is("namings", plain.namings(bits), seen.namings(bits));
        is("why", plain.why(bits), seen.why(bits));
        for (int set = 0; set < plain.count(8); set++) is("only", plain.only(set, bits), seen.only(set, bits));
    }

    private void addBone() {
        int grave = about(4);
        int pair = about(profile == 2 ? 2 : 4);
        int side = about(2);
        int size = about(100);
        is("bone", plain.bone(grave, pair, side, size), seen.bone(grave, pair, side, size));
    }

    private void bound() {
        int n = about(21);
        is("bound", plain.bound(n), seen.bound(n));
    }

    private void addSet() {
        int grave = about(profile == 2 ? 3 : 4);
        int low = 100 + about(40);
        int high = low + about(40);
        int has = marks();
        int hasNot = marks();
        is("set", plain.set(grave, low, high, has, hasNot), seen.set(grave, low, high, has, hasNot));
    }

    private void addMissing(int name) {
        int height = height();
        int had = marks();
        int hadNot = marks();
        is("missing", plain.missing(name, height, had, hadNot), seen.missing(name, height, had, hadNot));
    }
}
