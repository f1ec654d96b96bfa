import java.util.List;

/**
 * Terms 6, call by call: each refusal for each of its causes, of several the first one told, and that none of them
 * changes a thing: after it all answers are those of an object that never heard the refused call.
 */
public final class RefusalsTest {
    private static final Due DUE = new Due("RefusalsTest");
    private static final int NONE = LastSeen.NONE, BAD = LastSeen.BAD, STATE = LastSeen.STATE, FULL = LastSeen.FULL;

    /** What an object has heard before the call that it refuses. */
    private enum Scene { HEARD, NO_RULE, ROADS, TAPE, NAMES, BAD_NAME, BOOK, BOOK_RULE, BOOK_BAD_NAME, WORDS, RULES,
        FAULTY_RULES, FOUND, BONES, SETS, MISSING }

    public static void main(String[] args) {
        land();
        tapeAndNames();
        decrees();
        linksAndPersons();
        ties();
        words();
        withdrawals();
        aboutWords();
        calledByNameAndEntries();
        quarrels();
        coulds();
        findings();
        bones();
        sets();
        missing();
        fits();
        namings();
        gives();
        fullBook();
        counts();
        DUE.end();
    }

    // ---- what is refused

    private static void land() {
        refused(Scene.HEARD, NONE, "road -1 1 5; road 1 -1 5; road 10 1 5; road 1 10 5; road MIN 1 5; road 1 MAX 5");
        refused(Scene.HEARD, NONE, "road -1 -1 5; road 10 10 0; road 0 10 31; road -1 0 0");
        refused(Scene.HEARD, BAD, "road 0 1 0; road 0 1 31; road 0 1 -1; road 0 1 MIN; road 0 1 MAX; road 3 3 5; road 0 0 1");
        refused(Scene.HEARD, NONE, "far -1 0; far 0 -1; far 10 0; far 0 10; far MAX 0; far 0 MIN; far 10 10");
        refused(Scene.ROADS, FULL, "road 0 1 1; road 8 9 30");
        refused(Scene.ROADS, BAD, "road 0 1 0; road 0 1 31; road 9 9 1");
        refused(Scene.ROADS, NONE, "road 0 10 1; road -1 0 1");
    }

    private static void tapeAndNames() {
        refused(Scene.HEARD, BAD, "feed 97 0; feed 97 9; feed 97 -1; feed 97 MIN; feed 97 MAX");
        refused(Scene.TAPE, FULL, "feed 97 4; feed 97 5; feed 97 8");
        refused(Scene.TAPE, BAD, "feed 97 0; feed 97 9; name");
        refused(Scene.HEARD, BAD, "name");
        refused(Scene.NAMES, FULL, "name");
        refused(Scene.BAD_NAME, BAD, "name");
        refused(Scene.HEARD, -5, "key 0 2; key 0 -2; key 0 MIN; key 0 MAX; key -1 0; key 4 0; key 4 -1; key MAX -1; key MIN -2");
    }

    private static void decrees() {
        for (String call : new String[] {"join ", "part "}) {
            String[] none = {"-1 0", "0 -1", "4 0", "0 4", "MIN 0", "0 MAX", "4 4", "-1 -1"};
            for (String names : none) refused(Scene.HEARD, NONE, call + names);
            refused(Scene.HEARD, BAD, call + "0 0;" + call + "3 3");
            refused(Scene.BOOK, FULL, call + "0 1;" + call + "1 0");
            refused(Scene.BOOK, BAD, call + "1 1");
            refused(Scene.BOOK, NONE, call + "0 2;" + call + "2 2;" + call + "-1 0");
        }
    }

    private static void linksAndPersons() {
        refused(Scene.HEARD, NONE, "link -1 0 -1; link 0 -1 -1; link 4 0 -1; link 0 4 -1; link MAX 0 -1; link 0 MIN -1");
        refused(Scene.HEARD, NONE, "link 0 1 -2; link 0 1 16; link 0 1 MIN; link 0 1 MAX; link 0 1 0");
        refused(Scene.HEARD, NONE, "link 0 1 1; link 1 0 1; link 2 3 3; link 3 3 3; link 0 0 16; link 4 4 -1");
        refused(Scene.HEARD, BAD, "link 0 0 -1; link 3 3 4; link 0 0 1");
        refused(Scene.HEARD, NONE, "person -1 -1; person 4 -1; person MIN -1; person MAX -1; person 3 3; person 0 0");
        refused(Scene.HEARD, NONE, "person 0 -2; person 0 16; person 0 MIN; person 0 MAX");
    }

    private static void ties() {
        refused(Scene.HEARD, NONE, "tie -1 0 -1; tie 0 -1 -1; tie 4 0 -1; tie 0 4 -1; tie MAX 0 -1; tie 0 MIN -1");
        refused(Scene.HEARD, NONE, "tie 0 1 -2; tie 0 1 3; tie 0 1 4; tie 0 1 MIN; tie 0 1 MAX");
        refused(Scene.HEARD, NONE, "tie 4 4 -1; tie 2 2 -2; tie 0 2 -2; tie 0 4 3");
        refused(Scene.HEARD, BAD, "tie 0 0 -1; tie 2 2 0; tie 3 3 5");
        // LINKED; PARTED, but not ONE; neither.
        refused(Scene.HEARD, STATE, "tie 0 2 -1; tie 2 0 0; tie 3 2 -1; tie 2 3 1; tie 0 3 -1");
    }

    private static void words() {
        refused(Scene.HEARD, NONE, "word -1 0 1 0 0 -1; word 30 0 1 0 0 -1; word MIN 0 1 0 0 -1; word MAX 0 1 0 0 -1");
        refused(Scene.HEARD, NONE, "word 0 -1 1 0 0 -1; word 0 4 1 0 0 -1; word 0 MIN 1 0 0 -1; word 0 MAX 1 0 0 -1");
        refused(Scene.HEARD, NONE, "word 0 0 1 0 0 -2; word 0 0 1 0 0 4; word 0 0 1 0 0 MIN; word 0 0 1 0 0 MAX");
        refused(Scene.HEARD, NONE, "word 30 0 0 0 0 -1; word 0 4 1 -1 0 -1; word 0 0 1024 0 0 4; word 0 0 1 5 4 -2");
        refused(Scene.HEARD, BAD, "word 0 0 0 0 0 -1; word 0 0 1024 0 0 -1; word 0 0 1025 0 0 -1; word 0 0 -1 0 0 -1");
        refused(Scene.HEARD, BAD, "word 0 0 MIN 0 0 -1; word 0 0 MAX 0 0 -1; word 29 3 1024 999 999 3");
        refused(Scene.HEARD, BAD, "word 0 0 1 -1 0 -1; word 0 0 1 -1 -1 -1; word 0 0 1 0 1000 -1; word 0 0 1 1000 1000 -1");
        refused(Scene.HEARD, BAD, "word 0 0 1 1 0 -1; word 0 0 1 999 998 -1; word 0 0 1 MIN 0 -1; word 0 0 1 0 MAX -1");
        refused(Scene.WORDS, FULL, "word 0 0 1 0 0 -1; word 29 0 1023 0 999 39");
        refused(Scene.WORDS, BAD, "word 0 0 0 0 0 -1; word 0 0 1 5 4 -1");
        refused(Scene.WORDS, NONE, "word 30 0 1 0 0 -1; word 0 1 1 0 0 -1; word 0 0 1 0 0 40");
    }

    private static void withdrawals() {
        refused(Scene.HEARD, NONE, "withdraw -1; withdraw 4; withdraw MIN; withdraw MAX");
        refused(Scene.HEARD, STATE, "withdraw 3");
    }

    private static void aboutWords() {
        refused(Scene.HEARD, NONE, "about -1 -1 0; about 4 -1 0; about MIN -1 1; about MAX -1 2");
        refused(Scene.HEARD, NONE, "about 0 -1 -1; about 0 -1 3; about 0 -1 MIN; about 0 -1 MAX");
        refused(Scene.HEARD, NONE, "about 0 -2 0; about 0 16 0; about 0 MIN 1; about 0 MAX 2; about 0 0 0");
        // WORD 0 is the ninth ENTRY, WORD 3 the twelfth.
        refused(Scene.HEARD, NONE, "about 0 8 0; about 3 11 0; about 3 11 1; about 3 11 2");
    }

    /** NAME 3 is the fourth ENTRY, of fifteen. */
    private static void calledByNameAndEntries() {
        String[] calls = {"root N E -1", "eyes N E", "can N E", "quarrel N E -1", "could N E 0 0", "last N E", "finding N E"};
        String[] none = {"-1 -1", "4 -1", "MIN -1", "MAX -1", "3 3", "0 0", "0 -2", "0 16", "0 MIN", "0 MAX", "4 16"};
        for (String call : calls) {
            for (String pair : none) {
                String[] numbers = pair.split(" ");
                refused(Scene.HEARD, NONE, call.replace("N", numbers[0]).replace("E", numbers[1]));
            }
        }
        refused(Scene.HEARD, NONE, "root 0 -1 -2; root 0 -1 2; root 0 -1 3; root 0 -1 MIN; root 0 -1 MAX; root 3 4 0");
    }

    private static void quarrels() {
        refused(Scene.HEARD, NONE, "quarrel 0 -1 -2; quarrel 0 -1 2; quarrel 0 -1 3; quarrel 0 -1 MIN; quarrel 0 -1 MAX");
        refused(Scene.HEARD, NONE, "quarrel 3 -1 -2; quarrel 3 -1 MIN; quarrel 4 -1 0");
        refused(Scene.HEARD, STATE, "quarrel 3 -1 -1; quarrel 3 -1 0; quarrel 0 9 -1; quarrel 0 1 0");
    }

    private static void coulds() {
        refused(Scene.HEARD, NONE, "could 0 -1 -1 0; could 0 -1 10 0; could 0 -1 MIN 0; could 0 -1 MAX 0; could 0 -1 10 1000");
        refused(Scene.HEARD, NONE, "could 4 -1 0 -1; could 0 16 0 1000");
        refused(Scene.HEARD, BAD, "could 0 -1 0 -1; could 0 -1 9 1000; could 0 -1 0 MIN; could 0 -1 0 MAX");
    }

    private static void findings() {
        refused(Scene.NO_RULE, -5, "finding 0 -1; finding 0 1");
        refused(Scene.NO_RULE, NONE, "finding 1 -1; finding 0 0; finding 0 2; find 1; find -1");
        refused(Scene.NO_RULE, STATE, "find 0");
        refused(Scene.HEARD, NONE, "find -1; find 4; find MIN; find MAX");
        refused(Scene.HEARD, NONE, "found -1 0; found 2 0; found MIN 0; found MAX 3; found 3 4; found 2 10");
        refused(Scene.HEARD, NONE, "found 0 -1; found 0 5; found 0 9; found 0 12; found 0 13; found 0 MIN; found 0 MAX");
        refused(Scene.FOUND, FULL, "find 0");
        refused(Scene.FOUND, NONE, "find 1; find -1; found 30 0");
        refused(Scene.RULES, FULL, "rule");
        refused(Scene.FAULTY_RULES, FULL, "rule");
    }

    private static void bones() {
        refused(Scene.HEARD, NONE, "bone -1 0 0 0; bone 4 0 0 0; bone MIN 0 0 0; bone MAX 0 0 0; bone 4 4 2 100; bone -1 -1 -1 -1");
        refused(Scene.HEARD, BAD, "bone 0 -1 0 0; bone 0 4 0 0; bone 0 5 0 0; bone 0 MIN 0 0; bone 0 MAX 0 0");
        refused(Scene.HEARD, BAD, "bone 0 0 -1 0; bone 0 0 2 0; bone 0 0 MIN 0; bone 0 0 MAX 0");
        refused(Scene.HEARD, BAD, "bone 0 0 0 -1; bone 0 0 0 100; bone 0 0 0 MIN; bone 0 0 0 MAX; bone 3 3 1 100");
        refused(Scene.HEARD, BAD, "bound -1; bound 21; bound MIN; bound MAX");
        refused(Scene.HEARD, NONE, "least -1; least 4; least MIN; least MAX");
        refused(Scene.BONES, FULL, "bone 1 2 0 50; bone 1 2 0 0; bone 1 2 0 99");
        refused(Scene.BONES, BAD, "bone 1 2 0 100; bone 1 2 2 50; bone 1 4 0 50");
        refused(Scene.BONES, NONE, "bone 4 2 0 50");
    }

    private static void sets() {
        refused(Scene.HEARD, NONE, "set -1 100 220 0 0; set 4 100 220 0 0; set MIN 100 220 0 0; set MAX 100 220 0 0");
        refused(Scene.HEARD, NONE, "set 4 99 220 0 0; set -1 100 220 1 1");
        refused(Scene.HEARD, BAD, "set 0 99 220 0 0; set 0 100 221 0 0; set 0 99 99 0 0; set 0 221 221 0 0; set 0 0 0 0 0");
        refused(Scene.HEARD, BAD, "set 0 151 150 0 0; set 0 220 100 0 0; set 0 MIN 220 0 0; set 0 100 MAX 0 0");
        refused(Scene.HEARD, BAD, "set 0 100 220 256 0; set 0 100 220 -1 0; set 0 100 220 0 256; set 0 100 220 0 -1");
        refused(Scene.HEARD, BAD, "set 0 100 220 1 1; set 0 100 220 128 128; set 0 100 220 255 16; set 0 100 220 MIN 0");
        refused(Scene.SETS, FULL, "set 0 100 220 0 0; set 3 150 150 255 0");
        refused(Scene.SETS, BAD, "set 0 99 220 0 0; set 0 100 220 1 1");
        refused(Scene.SETS, NONE, "set 4 100 220 0 0");
    }

    private static void missing() {
        refused(Scene.HEARD, NONE, "missing -1 0 0 0; missing 4 0 0 0; missing MIN 0 0 0; missing MAX 0 0 0");
        refused(Scene.HEARD, NONE, "missing 4 99 0 0; missing -1 0 1 1");
        refused(Scene.HEARD, BAD, "missing 1 -1 0 0; missing 1 1 0 0; missing 1 99 0 0; missing 1 221 0 0; missing 1 MIN 0 0");
        refused(Scene.HEARD, BAD, "missing 1 0 256 0; missing 1 0 -1 0; missing 1 0 0 256; missing 1 0 0 -1");
        refused(Scene.HEARD, BAD, "missing 1 0 1 1; missing 1 0 128 255; missing 0 150 4 4; missing 1 MAX 0 0");
        // NAME 3 is NAMED.
        refused(Scene.HEARD, BAD, "missing 3 99 0 0; missing 3 0 1 1");
        refused(Scene.HEARD, STATE, "missing 3 0 0 1; missing 3 150 0 0");
        refused(Scene.MISSING, FULL, "missing 10 0 0 0; missing 10 220 255 0");
        refused(Scene.MISSING, STATE, "missing 0 0 0 0");
        refused(Scene.MISSING, BAD, "missing 10 99 0 0; missing 10 0 1 1; missing 9 99 0 0");
        refused(Scene.MISSING, NONE, "missing 11 0 0 0");
    }

    private static void fits() {
        refused(Scene.HEARD, NONE, "fit -1 0; fit 3 0; fit MIN 0; fit MAX 0");
        // NAME 1 is not MISSING, there is no NAME 4.
        refused(Scene.HEARD, NONE, "fit 0 -1; fit 0 1; fit 0 4; fit 0 MIN; fit 0 MAX; fit 3 4");
    }

    private static void namings() {
        refused(Scene.HEARD, BAD, "namings 8; namings 15; namings -1; namings MIN; namings MAX");
        refused(Scene.HEARD, BAD, "why 8; why 15; why -1; why MIN; why MAX");
        refused(Scene.HEARD, NONE, "only -1 7; only 3 7; only MIN 7; only MAX 7; only 3 8; only 4 0; only -1 -1");
        refused(Scene.HEARD, BAD, "only 0 0; only 0 2; only 0 6; only 2 3; only 0 9; only 0 -1; only 0 MIN; only 0 MAX");
        refused(Scene.SETS, BAD, "namings 256; namings 257; why 256; only 0 257");
    }

    private static void gives() {
        refused(Scene.HEARD, NONE, "give -1; give 3; give MIN; give MAX");
        refused(Scene.HEARD, NONE, "take -1; take 3; take MIN; take MAX; named -1; named 3; named MIN; named MAX");
        // SET 1 is NAMED; there is no ONLY one for SET 2.
        refused(Scene.HEARD, STATE, "give 1; give 2; take 0; take 2");
    }

    private static void fullBook() {
        refused(Scene.BOOK, FULL, "name; rule; withdraw 0; withdraw 1; word 0 0 1 0 0 -1; word 0 0 1 0 0 1");
        refused(Scene.BOOK_RULE, FULL, "rule");
        refused(Scene.BOOK_BAD_NAME, BAD, "name");
        refused(Scene.BOOK, STATE, "withdraw 2");
        refused(Scene.BOOK, NONE, "withdraw 3; withdraw -1; word 30 0 1 0 0 -1; link 0 1 201; person 0 201; about 0 201 0");
        refused(Scene.BOOK, BAD, "word 0 0 0 0 0 -1; word 0 0 1 0 1000 -1");
    }

    private static void counts() {
        refused(Scene.HEARD, NONE, "count -1; count 12; count -2; count MIN; count MAX");
    }

    // ---- how it is looked at

    private static void refused(Scene scene, int due, String calls) {
        for (String call : calls.split(";")) {
            List<Integer> want = allAnswers(of(scene));
            LastSeen seen = of(scene);
            String told = scene + ", " + call.trim();
            DUE.is(told, due, Calls.answer(seen, call));
            List<Integer> got = allAnswers(seen);
            int first = 0;
            while (first < want.size() && want.get(first).equals(got.get(first))) first++;
            DUE.is(told + ", changed answers, from " + first + " on", 0, want.size() - first);
        }
    }

    /** Asks for all that a SCENE could show, and at the end by calls that change something. */
    private static List<Integer> allAnswers(LastSeen seen) {
        StringBuilder calls = new StringBuilder();
        for (int what = 0; what <= 11; what++) calls.append("count " + what + ";");
        for (int a = 0; a < 4; a++) {
            for (int b = 0; b < a; b++) calls.append("far A B; link A B -1;".replace("A", "" + a).replace("B", "" + b));
        }
        calls.append("far 8 9; tie 0 1 -1; tie 0 1 1; tie 0 1 2;");
        String ofName = "key N -1; key N 0; person N -1; eyes N -1; can N -1; last N -1; root N -1 -1; root N -1 0;"
            + "root N -1 1; quarrel N -1 -1; quarrel N -1 0; could N -1 0 5; could N -1 1 20; finding N -1;";
        for (int name = 0; name < 4; name++) calls.append(ofName.replace("N", "" + name));
        for (int word = 0; word < 4; word++) calls.append("about W -1 0; about W -1 1; about W -1 2;".replace("W", "" + word));
        String ofFinding = "found F 0; found F 1; found F 2; found F 3; found F 4; found F 10; found F 11;";
        for (int finding = 0; finding < 2; finding++) calls.append(ofFinding.replace("F", "" + finding));
        for (int grave = 0; grave < 4; grave++) calls.append("least " + grave + ";");
        for (int set = 0; set < 3; set++) {
            calls.append("fit S 0; fit S 1; fit S 2; fit S 3; named S; only S 7;".replace("S", "" + set));
        }
        for (int bits = 0; bits < 8; bits++) calls.append("namings " + bits + ";");
        calls.append("why 7; road 0 9 30; far 0 9; bone 0 0 0 50; bone 1 2 0 50; bone 3 3 1 50; bound 0; take 1; take 0;");
        calls.append("name; key 4 -1; key 4 0; rule; count 11; feed 97 1; name; key 4 -1; key 4 0");
        return Calls.answers(seen, calls.toString());
    }

    private static LastSeen of(Scene scene) {
        switch (scene) {
            case HEARD: return heard();
            case NO_RULE: return Due.with("kara");
            case ROADS: return full(new LastSeen(), 40, "road 0 1 30");
            case TAPE: {
                LastSeen seen = full(Due.with("kara"), 24, "feed 0 8");
                seen.feed(0x656C7365L, 4);
                seen.feed(0x61, 1);
                return seen;
            }
            case NAMES: return fedWith("anna", twentyNames());
            case BAD_NAME: return fedWith("anna1", twentyNames());
            case BOOK: return fedWith("anna", fullBookHeard());
            case BOOK_RULE: return fedWith("else>1", fullBookHeard());
            case BOOK_BAD_NAME: return fedWith("anna1", fullBookHeard());
            case WORDS: return full(Due.with("kara"), 40, "word 1 0 1 0 0 -1");
            case RULES: return fedWith("else>8", twentyRules());
            case FAULTY_RULES: return fedWith("r=0>1;", twentyRules());
            case FOUND: {
                LastSeen seen = Due.with("kara");
                Due.rule(seen, "r=0>1;else>0");
                return full(seen, 30, "find 0");
            }
            case BONES: return full(new LastSeen(), 12, "bone 1 2 0 40");
            case SETS: return full(Due.with("kara"), 8, "set 0 100 220 0 0");
            default: return tenMissing();
        }
    }

    private static LastSeen full(LastSeen seen, int times, String call) {
        for (int i = 0; i < times; i++) Calls.answer(seen, call);
        return seen;
    }

    private static LastSeen fedWith(String tape, LastSeen seen) {
        Due.feed(seen, tape);
        return seen;
    }

    /** NAMES 0 and 1 are TIED by 2, of NAME 3 two WORDS came, one of them withdrawn; fifteen ENTRIES. */
    private static LastSeen heard() {
        LastSeen seen = Due.with("kara", "cara", "bob", "dan");
        Calls.answers(seen, "part 0 1; join 0 2; join 1 2; part 2 3; road 0 1 5; road 1 2 7");
        Calls.answers(seen, "word 1 0 1 10 12 -1; word 2 1 2 12 13 -1; word 3 3 4 0 999 1; word 4 3 1 5 5 -1");
        Due.rule(seen, "c=0>1;else>2");
        Calls.answers(seen, "find 0; find 3; withdraw 3; part 2 3");
        Calls.answers(seen, "bone 0 0 0 10; bone 0 0 1 13; bone 2 3 1 99; bound 3");
        Calls.answers(seen, "set 0 150 160 1 2; set 0 100 220 0 0; set 1 100 220 0 0");
        Calls.answers(seen, "missing 0 155 1 0; missing 3 0 0 1; missing 2 200 0 0; give 1");
        Due.feed(seen, "x1");
        DUE.is("ENTRIES of HEARD", 15, seen.count(0));
        DUE.is("NAMED of HEARD", 3, seen.named(1));
        return seen;
    }

    private static LastSeen twentyNames() {
        LastSeen seen = new LastSeen();
        for (int i = 0; i < 20; i++) Due.name(seen, "b" + (char) ('a' + i));
        return seen;
    }

    private static LastSeen twentyRules() {
        LastSeen seen = Due.with("kara");
        for (int i = 0; i < 20; i++) Due.rule(seen, "else>7");
        return seen;
    }

    /** Of three WORDS the last one is WITHDRAWN; two hundred ENTRIES. */
    private static LastSeen fullBookHeard() {
        LastSeen seen = Due.with("kara", "bob");
        Calls.answers(seen, "word 1 0 1 10 12 -1; word 2 1 2 12 13 0; word 2 1 2 12 13 -1; withdraw 2");
        full(seen, 194, "part 0 1");
        DUE.is("ENTRIES of a full BOOK", 200, seen.count(0));
        return seen;
    }

    /** Of ten MISSING the first is NAMED; NAME 10 is not MISSING. */
    private static LastSeen tenMissing() {
        LastSeen seen = Due.with("a", "b", "c", "d", "f", "g", "l", "m", "n", "r", "t");
        for (int name = 0; name < 10; name++) seen.missing(name, 100 + name, 0, 0);
        seen.set(0, 100, 100, 0, 0);
        DUE.is("NAMED of ten MISSING", 0, seen.give(0));
        return seen;
    }
}
