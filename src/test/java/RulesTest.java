/** Promises 21 to 24: RULES, FAULTS, FINDINGS, what was FOUND and whether it HOLDS. */
public final class RulesTest {
    private static final Due DUE = new Due("RulesTest");

    public static void main(String[] args) {
        rulesRead();
        faults();
        faultsAfterEightClauses();
        rulesFull();
        deepRules();
        letters();
        signsAndGroups();
        firstClauseThatIsSo();
        latestRuleByEntries();
        findingRefused();
        foundWrittenDown();
        foundLeans();
        foundHolds();
        foundFull();
        DUE.end();
    }

    private static void rulesRead() {
        LastSeen seen = Due.with("a");
        DUE.is("else alone", 1, Due.rule(seen, "else>7"));
        DUE.is("THE TAPE is empty then", 0, seen.count(11));
        DUE.is("one CLAUSE", 2, Due.rule(seen, "r.2>1;else>0"));
        DUE.is("eight CLAUSES", 9, Due.rule(seen, "r.2>1;e<3>2;h=0>3;c=1>4;n.1>5;l<999>6;k=10>7;e=0>8;else>9"));
        DUE.is("all that a WHEN has", 2, Due.rule(seen, "!(r<1|!!e=20&(h.300))&c=0|l<0>1;else>2"));
        DUE.is("count(5)", 4, seen.count(5));
        DUE.is("count(0)", 5, seen.count(0));
    }

    private static void faults() {
        Object[][] due = {
            {"", 0}, {"x", 0}, {"e", 1}, {"el", 2}, {"els", 3}, {"else", 4}, {"else>", 5}, {"else>x", 5},
            {"else>1;", 6}, {"else>12", 6}, {"elsf", 3}, {"ell", 2}, {"elze>1", 2}, {"else=1", 4}, {"l", 1},
            {"le", 1}, {"r", 1}, {"r>1", 1}, {"r=", 2}, {"r=x", 2}, {"r=1", 3}, {"r=1x", 3}, {"r=1)", 3},
            {"r=12345", 5}, {"r=1234", 5}, {"r=00", 3}, {"r=01", 3}, {"r=0", 3}, {"r=100>1", 7}, {"r=999>", 6},
            {"r=1>x", 4}, {"r=1>1", 5}, {"r=1>1x", 5}, {"r=1>12", 5}, {"r=1>1;", 6}, {"r=1>1;x", 6},
            {"r=1>1;;", 6}, {"r=1>1;r=1>1", 11}, {"r=1>1;else", 10}, {"(r=1>1;else>1", 4}, {"(r=1)>1;else>1)", 14},
            {"(r=1))", 5}, {"()", 1}, {"(r=1)(", 5}, {"(r=1)r", 5}, {"r=1&", 4}, {"r=1&&", 4}, {"r=1|&", 4},
            {"r=1&|", 4}, {"!", 1}, {"!>", 1}, {"!!!r=1>1;else>1x", 15}, {"!else>1", 2}, {"(else>1", 2},
            {"r=1&else>1", 5}, {"r.=1", 2}, {"r>=1", 1}, {"r==1", 2}, {" r=1", 0}, {"r =1", 1}, {"r= 1", 2},
            {"R=1", 0}, {"m=1", 0}, {"1=r", 0}, {"&r=1", 0}, {"r=-1", 2}, {"r=1!r", 3}, {"r=1(", 3},
            {"r=1>1;else>1\n", 12}, {"e\u00e9", 1}};
        LastSeen seen = Due.with("a");
        for (Object[] row : due) {
            int fault = (Integer) row[1];
            DUE.is("rule of " + row[0], -10 - fault, Due.rule(seen, (String) row[0]));
            DUE.is("THE TAPE is empty after " + row[0], 0, seen.count(11));
        }
        DUE.is("count(5)", 0, seen.count(5));
        DUE.is("count(0), a FAULT is no ENTRY", 1, seen.count(0));
    }

    private static void faultsAfterEightClauses() {
        LastSeen seen = new LastSeen();
        String eight = "r=1>1;".repeat(8);
        DUE.is("eight and else", 9, Due.rule(seen, eight + "else>1"));
        DUE.is("nine", -10 - 48, Due.rule(seen, eight + "r=1>1;else>1"));
        DUE.is("nine, the last by e", -10 - 49, Due.rule(seen, eight + "e=1>1;else>1"));
        DUE.is("nine, the last by (", -10 - 48, Due.rule(seen, eight + "(e=1)>1;else>1"));
        DUE.is("nine, the last by !", -10 - 48, Due.rule(seen, eight + "!e=1>1;else>1"));
        DUE.is("seven, then by e", 9, Due.rule(seen, eight.substring(6) + "e=1>1;else>1"));
        DUE.is("eight and e", -10 - 49, Due.rule(seen, eight + "e"));
    }

    private static void rulesFull() {
        LastSeen seen = new LastSeen();
        for (int i = 0; i < 20; i++) DUE.is("rule " + i, 1, Due.rule(seen, "else>1"));
        DUE.is("rule 20", LastSeen.FULL, Due.rule(seen, "else>1"));
        DUE.is("THE TAPE stays", 6, seen.count(11));
        DUE.is("count(5)", 20, seen.count(5));
        DUE.is("count(0)", 20, seen.count(0));
    }

    private static void deepRules() {
        LastSeen seen = Due.with("a");
        String deep = "(".repeat(94) + "n=1" + ")".repeat(94) + ">4;else>5";
        DUE.is("94 groups deep, 200 bytes", 200, deep.length());
        DUE.is("rule of 94 groups", 2, Due.rule(seen, deep));
        DUE.is("finding by 94 groups", 4, seen.finding(0, -1));
        String turned = "!(".repeat(62) + "n=1" + ")".repeat(62) + ">4;else>5";
        DUE.is("rule of 62 turned groups", 2, Due.rule(seen, turned));
        DUE.is("finding, turned evenly", 4, seen.finding(0, -1));
        DUE.is("rule of 61 turned groups", 2, Due.rule(seen, turned.replaceFirst("!", "")));
        DUE.is("finding, turned oddly", 5, seen.finding(0, -1));
        DUE.is("rule of 187 turns", 2, Due.rule(seen, "!".repeat(187) + "n=1>4;else>5"));
        DUE.is("finding by 187 turns", 5, seen.finding(0, -1));
        DUE.is("200 groups opened", -210, Due.rule(seen, "(".repeat(200)));
    }

    /** The digit that a RULE of this CLAUSE decides: 1 if it is so, else 0. */
    private static int asks(LastSeen seen, int name, String when) {
        DUE.is("rule " + when, 2, Due.rule(seen, when + ">1;else>0"));
        return seen.finding(name, -1);
    }

    private static void letters() {
        LastSeen seen = Due.with("kara", "cara", "bob");
        String[] ofNone = {"r=0", "e=0", "h=0", "c=1", "n=1", "l=0", "k=0"};
        for (String when : ofNone) DUE.is(when + " of no WORDS", 1, asks(seen, 2, when));
        seen.word(1, 0, 7, 0, 20, -1);
        seen.word(1, 1, 3, 0, 30, -1);
        seen.word(2, 1, 4, 0, 999, 0);
        seen.word(3, 0, 4, 0, 999, 2);
        seen.word(3, 2, 4, 0, 999, 2);
        seen.word(5, 2, 8, 900, 999, -1);
        seen.word(6, 0, 8, 900, 999, 5);
        seen.withdraw(3);
        DUE.is("count(0)", 18, seen.count(0));
        String[] due = {"r=3", "e=2", "h=2", "c=0", "n=2", "l=999", "k=1"};
        for (String when : due) DUE.is(when, 1, asks(seen, 1, when));
        LastSeen none = Due.with("kara", "bob");
        none.word(1, 0, 7, 3, 20, -1);
        none.last(0, -1);
        DUE.is("l of no ROOTS, behind one that has some", 1, asks(none, 1, "l=0"));
        none.last(0, -1);
        DUE.is("k of no ROOTS, behind one that has some", 1, asks(none, 1, "k=0"));
        DUE.is("k of all ten PLACES", 1, asks(allPlaces(), 0, "k=10&l=0&r=1"));
    }

    private static LastSeen allPlaces() {
        LastSeen seen = Due.with("a");
        seen.word(0, 0, 1023, 0, 0, -1);
        return seen;
    }

    private static void signsAndGroups() {
        String[] so = {"n<2", "n=1", "n.0", "!n.1", "!!n=1", "n=1|n=2&n=3", "n=2&n=3|n=1", "(n=2|n=1)&n=1",
            "!(n=2|n=3)", "!n=2&!n=3", "n=2|!(n=1&n=2)", "((n=1))", "n<999", "!(!(n=1))"};
        String[] not = {"n<1", "n<0", "n=0", "n.1", "!n=1", "n=2&n=1|n=3", "(n=2|n=1)&n=2", "!(n=1|n=2)", "n=1&n=2",
            "(n=1|n=1)&(n=2|n=3)", "!n=1|n=2", "!!(n=2)", "n.999"};
        for (int i = 0; i < so.length; i++) DUE.is(so[i], 1, askNew(so[i]));
        for (int i = 0; i < not.length; i++) DUE.is(not[i], 0, askNew(not[i]));
    }

    /** Asks on a new object, for there are 20 RULES at most. */
    private static int askNew(String when) {
        return asks(Due.with("a"), 0, when);
    }

    private static void firstClauseThatIsSo() {
        LastSeen seen = Due.with("a");
        Due.rule(seen, "r.0&e.0>1;r.1|h.0>2;n=1>3;c=1>4;else>5");
        DUE.is("the third of several", 3, seen.finding(0, -1));
        seen.word(1, 0, 1, 0, 0, -1);
        DUE.is("the first", 1, seen.finding(0, -1));
        Due.rule(seen, "n=2>0;n=3>1;n=4>2;n=5>3;n=6>4;n=7>5;n=8>6;n=1>8;else>7");
        DUE.is("the eighth", 8, seen.finding(0, -1));
        Due.rule(seen, "n=2>0;n=3>1;else>9");
        DUE.is("else", 9, seen.finding(0, -1));
    }

    private static void latestRuleByEntries() {
        LastSeen seen = Due.with("a");
        Due.rule(seen, "r=0>3;else>4");
        seen.word(1, 0, 1, 0, 0, -1);
        Due.rule(seen, "r=0>5;else>6");
        seen.withdraw(0);
        int[] want = {-1, -5, 3, 4, 6, 5};
        for (int e = 0; e <= 5; e++) DUE.is("finding by " + e, want[e], seen.finding(0, e));
        DUE.is("finding of now", 5, seen.finding(0, -1));
        LastSeen names = Due.with("kara");
        Due.rule(names, "n=1>1;else>2");
        Due.name(names, "cara");
        DUE.is("finding by 2, of one NAME", 1, names.finding(0, 2));
        DUE.is("finding by 3, of two NAMES", 2, names.finding(0, 3));
    }

    private static void findingRefused() {
        LastSeen seen = Due.with("a");
        DUE.is("finding with no RULE", -5, seen.finding(0, -1));
        DUE.is("finding(1, -1) with no RULE, NONE ahead", LastSeen.NONE, seen.finding(1, -1));
        DUE.is("finding(0, 2)", LastSeen.NONE, seen.finding(0, 2));
        DUE.is("find with no RULE", LastSeen.STATE, seen.find(0));
        DUE.is("find(1) with no RULE", LastSeen.NONE, seen.find(1));
        DUE.is("find(-1) with no RULE", LastSeen.NONE, seen.find(-1));
        Due.rule(seen, "else>1");
        DUE.is("found(0, 0) with none", LastSeen.NONE, seen.found(0, 0));
        DUE.is("find", 0, seen.find(0));
        int[] none = {-1, 5, 6, 9, 10, Integer.MAX_VALUE, Integer.MIN_VALUE};
        for (int what : none) DUE.is("found what " + what, LastSeen.NONE, seen.found(0, what));
        DUE.is("found(1, 0)", LastSeen.NONE, seen.found(1, 0));
        DUE.is("found(-1, 0)", LastSeen.NONE, seen.found(-1, 0));
    }

    private static void foundWrittenDown() {
        LastSeen seen = Due.with("a", "b");
        Due.rule(seen, "n=1>3;else>4");
        DUE.is("find(1)", 0, seen.find(1));
        seen.join(0, 1);
        DUE.is("find(1) again", 1, seen.find(1));
        DUE.is("a FINDING is no ENTRY", 4, seen.count(0));
        DUE.is("NAME", 1, seen.found(0, 0));
        DUE.is("e", 3, seen.found(0, 1));
        DUE.is("digit", 3, seen.found(0, 2));
        DUE.is("HOLDS by the NAMES of then", 1, seen.found(0, 3));
        DUE.is("LEANS on none", 0, seen.found(0, 4));
        DUE.is("the second's NAME, not the PERSON", 1, seen.found(1, 0));
        DUE.is("the second's e", 4, seen.found(1, 1));
        DUE.is("the second's digit", 4, seen.found(1, 2));
        DUE.is("count(6)", 2, seen.count(6));
        Due.rule(seen, "else>9");
        DUE.is("HOLDS by the RULE of then", 1, seen.found(0, 3));
        DUE.is("count(7)", 2, seen.count(7));
    }

    private static void foundLeans() {
        LastSeen seen = Due.with("a", "b", "c");
        seen.word(1, 1, 1, 0, 0, -1);
        seen.word(2, 2, 1, 0, 0, 0);
        seen.word(3, 0, 1, 0, 0, 1);
        seen.word(4, 0, 1, 0, 0, -1);
        seen.word(5, 0, 1, 0, 0, -1);
        seen.withdraw(3);
        Due.rule(seen, "else>1");
        seen.find(0);
        // Its own WORDS 2 and 4, and the ROOT 0 of another PERSON, but not 1, by which it was heard.
        int[] due = {0, 2, 4};
        DUE.is("LEANS on", 3, seen.found(0, 4));
        for (int i = 0; i < 3; i++) DUE.is("LEANS on, " + i, due[i], seen.found(0, 10 + i));
        DUE.is("LEANS on, 3", LastSeen.NONE, seen.found(0, 13));
        seen.find(1);
        DUE.is("the other one LEANS on", 1, seen.found(1, 4));
        DUE.is("the other one LEANS on, 0", 0, seen.found(1, 10));
        DUE.is("the other one LEANS on, 1", LastSeen.NONE, seen.found(1, 11));
        seen.withdraw(0);
        seen.word(6, 0, 1, 0, 0, -1);
        seen.join(1, 0);
        DUE.is("LEANS on what stood then", 3, seen.found(0, 4));
        seen.eyes(2, -1);
        DUE.is("LEANS on what stood then, 2", 4, seen.found(0, 12));
        DUE.is("LEANS on what stood then, 0", 0, seen.found(0, 10));
    }

    private static void foundHolds() {
        LastSeen seen = Due.with("a", "b");
        Due.rule(seen, "r.1>2;r=1>1;else>0");
        seen.word(1, 1, 1, 0, 0, -1);
        seen.word(2, 0, 1, 0, 0, 0);
        seen.word(3, 0, 1, 0, 0, -1);
        seen.word(4, 0, 1, 0, 0, -1);
        DUE.is("find(0)", 0, seen.find(0));
        DUE.is("digit", 2, seen.found(0, 2));
        seen.withdraw(2);
        DUE.is("HOLDS with two ROOTS left", 1, seen.found(0, 3));
        seen.withdraw(0);
        DUE.is("HOLDS no more with one", 0, seen.found(0, 3));
        DUE.is("count(7)", 0, seen.count(7));
        seen.word(5, 0, 1, 0, 0, -1);
        DUE.is("what comes later does not count", 0, seen.found(0, 3));
        DUE.is("find(0) again", 1, seen.find(0));
        DUE.is("count(7), the new one", 1, seen.count(7));
        DUE.is("digit as it was written", 2, seen.found(0, 2));
        DUE.is("finding by then, with the withdrawn", 2, seen.finding(0, 7));

        LastSeen roads = Due.with("a");
        roads.word(1, 0, 1, 0, 0, -1);
        roads.word(1, 0, 2, 9, 9, -1);
        Due.rule(roads, "c=1>1;else>0");
        roads.find(0);
        roads.road(0, 1, 9);
        DUE.is("digit before the ROAD", 0, roads.found(0, 2));
        DUE.is("HOLDS by the ROADS of now", 0, roads.found(0, 3));
        Due.rule(roads, "r=2>7;else>8");
        roads.find(0);
        roads.withdraw(0);
        Due.rule(roads, "c=0>7;else>8");
        roads.find(0);
        DUE.is("HOLDS not, by r", 0, roads.found(1, 3));
        DUE.is("HOLDS, by c", 1, roads.found(2, 3));
    }

    private static void foundFull() {
        LastSeen seen = Due.with("a");
        Due.rule(seen, "else>1");
        for (int i = 0; i < 30; i++) DUE.is("find " + i, i, seen.find(0));
        DUE.is("find 30", LastSeen.FULL, seen.find(0));
        DUE.is("find 30, NONE ahead of FULL", LastSeen.NONE, seen.find(1));
        DUE.is("count(6)", 30, seen.count(6));
        DUE.is("count(7)", 30, seen.count(7));
    }
}
