/** Terms 1 and 6: THE BOOK and its 200 ENTRIES, one by each of six kinds of call, and what is told "by e". */
public final class BookTest {
    private static final Due DUE = new Due("BookTest");
    /** What comes as an ENTRY to an object that oneOfEach() made; the tape is fed ahead of name and rule. */
    private static final String[] KINDS = {"name", "join 0 1", "part 0 1", "word 5 1 3 0 9 0", "withdraw 1", "rule"};
    private static final String[] TOLD_BY = {"link 0 1 E", "person 1 E", "about 0 E 0", "about 0 E 1", "about 0 E 2",
        "root 1 E -1", "root 1 E 0", "eyes 1 E", "can 1 E", "quarrel 1 E -1", "could 1 E 0 0", "last 1 E", "finding 1 E"};

    public static void main(String[] args) {
        nothingWasHeard();
        eachKindIsAnEntry();
        otherCallsAreNone();
        theTwoHundredth();
        theTwoHundredAndFirst();
        byMinusOneIsByAll();
        byTooFewOrTooMany();
        byTheEntryItself();
        laterEntriesDoNotCount();
        DUE.end();
    }

    /** Two NAMES, two WORDS, a RULE: five ENTRIES. */
    private static LastSeen oneOfEach() {
        LastSeen seen = Due.with("kara", "bob");
        Calls.answers(seen, "word 1 1 1 0 0 -1; word 2 0 3 10 20 0");
        Due.rule(seen, "r=1>3;else>4");
        return seen;
    }

    private static void fedFor(LastSeen seen, String kind) {
        if (kind.equals("name")) Due.feed(seen, "dan");
        if (kind.equals("rule")) Due.feed(seen, "else>9");
    }

    /** What a call of that kind answers to oneOfEach(), or to it with more ENTRIES. */
    private static int dueOf(String kind, int entries) {
        switch (kind) {
            case "name": return 2;
            case "word 5 1 3 0 9 0": return 2;
            case "withdraw 1": return 1;
            case "rule": return 1;
            default: return entries;
        }
    }

    private static void nothingWasHeard() {
        LastSeen seen = new LastSeen();
        DUE.is("ENTRIES at first", 0, seen.count(0));
        for (String call : TOLD_BY) {
            for (String e : new String[] {"-1", "0", "1"}) {
                String told = call.replace("E", e);
                DUE.is(told + " of a new object", LastSeen.NONE, Calls.answer(seen, told));
            }
        }
    }

    private static void eachKindIsAnEntry() {
        for (String kind : KINDS) {
            LastSeen seen = oneOfEach();
            fedFor(seen, kind);
            DUE.is("ENTRIES ahead of " + kind, 5, seen.count(0));
            DUE.is(kind + " as the sixth ENTRY", dueOf(kind, 6), Calls.answer(seen, kind));
            DUE.is("ENTRIES behind " + kind, 6, seen.count(0));
        }
    }

    private static void otherCallsAreNone() {
        LastSeen seen = oneOfEach();
        String calls = "road 0 1 5; far 0 1; feed 97 1; key 0 0; link 0 1 -1; person 0 -1; tie 0 1 -1; about 0 -1 0;"
            + "root 0 -1 -1; eyes 0 -1; can 0 -1; quarrel 0 -1 -1; could 0 -1 0 0; last 0 -1; finding 0 -1; find 0;"
            + "found 0 3; bone 0 0 0 0; bound 5; least 0; set 0 100 220 0 0; missing 0 0 0 0; fit 0 0; namings 1;"
            + "only 0 1; why 1; give 0; named 0; take 0; count 0; count 7";
        for (String call : calls.split(";")) {
            Calls.answer(seen, call);
            DUE.is("ENTRIES behind " + call, 5, seen.count(0));
        }
        DUE.is("take was heard, too", LastSeen.STATE, seen.take(0));
        Due.rule(seen, "x");
        DUE.is("ENTRIES behind a FAULT", 5, seen.count(0));
    }

    private static LastSeen withEntries(int entries) {
        LastSeen seen = oneOfEach();
        for (int i = 5; i < entries; i++) seen.part(0, 1);
        return seen;
    }

    private static void theTwoHundredth() {
        for (String kind : KINDS) {
            LastSeen seen = withEntries(199);
            fedFor(seen, kind);
            DUE.is("ENTRIES ahead of " + kind, 199, seen.count(0));
            DUE.is(kind + " as the 200th ENTRY", dueOf(kind, 200), Calls.answer(seen, kind));
            DUE.is("ENTRIES behind " + kind, 200, seen.count(0));
            DUE.is("told by 200", 1, seen.about(0, 200, 0));
            DUE.is("told by 201", LastSeen.NONE, seen.about(0, 201, 0));
            DUE.is("one more", LastSeen.FULL, seen.part(0, 1));
        }
    }

    private static void theTwoHundredAndFirst() {
        for (String kind : KINDS) {
            LastSeen seen = withEntries(200);
            fedFor(seen, kind);
            int bytes = seen.count(11);
            DUE.is(kind + " as the 201st ENTRY", LastSeen.FULL, Calls.answer(seen, kind));
            DUE.is("ENTRIES behind " + kind, 200, seen.count(0));
            DUE.is("NAMES", 2, seen.count(1));
            DUE.is("WORDS", 2, seen.count(3));
            DUE.is("WORDS that stand", 2, seen.count(4));
            DUE.is("RULES", 1, seen.count(5));
            DUE.is("THE TAPE stays", bytes, seen.count(11));
            DUE.is("a FINDING is FOUND all the same", 0, seen.find(0));
            DUE.is("its e", 200, seen.found(0, 1));
        }
    }

    private static void byMinusOneIsByAll() {
        LastSeen seen = oneOfEach();
        seen.join(0, 1);
        for (String call : TOLD_BY) {
            int want = Calls.answer(seen, call.replace("E", "6"));
            DUE.is(call + ", told by -1 as by 6", want, Calls.answer(seen, call.replace("E", "-1")));
        }
    }

    private static void byTooFewOrTooMany() {
        LastSeen seen = oneOfEach();
        for (String call : TOLD_BY) {
            for (String e : new String[] {"0", "-2", "6", "7", "200", "201", "MIN", "MAX"}) {
                String told = call.replace("E", e);
                DUE.is(told + " of five ENTRIES", LastSeen.NONE, Calls.answer(seen, told));
            }
        }
    }

    /** What comes as the third ENTRY is not told by two, and is told by three. */
    private static void byTheEntryItself() {
        LastSeen seen = oneOfEach();
        DUE.is("the NAME that is the second, by 1", LastSeen.NONE, seen.person(1, 1));
        DUE.is("the NAME that is the second, by 2", 1, seen.person(1, 2));
        DUE.is("the WORD that is the third, by 2", LastSeen.NONE, seen.about(0, 2, 0));
        DUE.is("the WORD that is the third, by 3", 1, seen.about(0, 3, 0));
        DUE.is("ROOTS by 2", 0, seen.root(1, 2, -1));
        DUE.is("ROOTS by 3", 1, seen.root(1, 3, -1));
        DUE.is("the RULE that is the fifth, by 4", -5, seen.finding(1, 4));
        DUE.is("the RULE that is the fifth, by 5", 3, seen.finding(1, 5));
        seen.join(0, 1);
        DUE.is("the JOINING that is the sixth, by 5", 0, seen.link(0, 1, 5));
        DUE.is("the JOINING that is the sixth, by 6", 1, seen.link(0, 1, 6));
        seen.part(0, 1);
        DUE.is("the PARTING that is the seventh, by 6", 1, seen.link(0, 1, 6));
        DUE.is("the PARTING that is the seventh, by 7", 0, seen.link(0, 1, 7));
        seen.withdraw(0);
        DUE.is("the WITHDRAWAL that is the eighth, by 7", 1, seen.about(1, 7, 0));
        DUE.is("the WITHDRAWAL that is the eighth, by 8", 0, seen.about(1, 8, 0));
    }

    /** All that is told by five ENTRIES stays, whatever ENTRIES come behind them. */
    private static void laterEntriesDoNotCount() {
        LastSeen seen = oneOfEach();
        int[] want = new int[TOLD_BY.length];
        for (int i = 0; i < want.length; i++) want[i] = Calls.answer(seen, TOLD_BY[i].replace("E", "5"));
        Due.name(seen, "bab");
        Calls.answers(seen, "join 0 1; word 3 1 512 0 0 -1; part 1 2; word 4 2 1 999 999 1; withdraw 0");
        Due.rule(seen, "n=2>6;else>7");
        for (int i = 0; i < want.length; i++) {
            DUE.is(TOLD_BY[i] + " by five ENTRIES", want[i], Calls.answer(seen, TOLD_BY[i].replace("E", "5")));
        }
        DUE.is("finding of now", 6, seen.finding(1, -1));
    }
}
