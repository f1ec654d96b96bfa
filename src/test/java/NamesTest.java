/** Promises 5 to 11: NAMES, KEYS, JOININGS, PARTINGS, LINKS, PERSONS, TIES. */
public final class NamesTest {
    private static final Due DUE = new Due("NamesTest");

    public static void main(String[] args) {
        namesRead();
        namesFull();
        keys();
        keyRefused();
        keysThatBeginAlike();
        joinAndPart();
        decreesRefused();
        entriesFull();
        linksByEntries();
        personsByEntries();
        ties();
        tieTakesLeastRow();
        tieByNamesBelowIt();
        tieOfTwenty();
        tieRefused();
        DUE.end();
    }

    private static void namesRead() {
        LastSeen seen = new LastSeen();
        DUE.is("name of nothing", LastSeen.BAD, seen.name());
        DUE.is("name a", 0, Due.name(seen, "a"));
        DUE.is("name of 12 letters", 1, Due.name(seen, "zabcdefghijz"));
        DUE.is("name of 13 letters", LastSeen.BAD, Due.name(seen, "zabcdefghijkl"));
        DUE.is("count(11), THE TAPE stays with BAD", 13, seen.count(11));
        DUE.is("rule empties it", -10, seen.rule());
        for (String text : new String[] {"A", "a b", "a`", "{a", "a1", "\u00e9"}) {
            DUE.is("name of " + text, LastSeen.BAD, Due.name(seen, text));
            seen.rule();
        }
        DUE.is("the same spelling again", 2, Due.name(seen, "a"));
        DUE.is("count(1)", 3, seen.count(1));
        DUE.is("count(0)", 3, seen.count(0));
        DUE.is("count(2), a and a are one", 2, seen.count(2));
    }

    private static void namesFull() {
        LastSeen seen = new LastSeen();
        for (int i = 0; i < 20; i++) DUE.is("name " + i, i, Due.name(seen, "b" + (char) ('a' + i)));
        DUE.is("name 20", LastSeen.FULL, Due.name(seen, "anna"));
        DUE.is("THE TAPE stays with FULL", 4, seen.count(11));
        DUE.is("BAD ahead of FULL", LastSeen.BAD, Due.name(seen, "1"));
        DUE.is("count(1)", 20, seen.count(1));
        DUE.is("count(0)", 20, seen.count(0));
    }

    private static void keys() {
        String[][] spelled = {
            {"kara", "cr"}, {"qarrah", "cr"}, {"phillip", "flp"}, {"hanna", "hn"}, {"anna", "an"},
            {"a", "a"}, {"h", "h"}, {"hh", "h"}, {"ph", "f"}, {"pph", "pf"}, {"phh", "f"}, {"pphh", "pf"},
            {"zsz", "s"}, {"jy", "i"}, {"yan", "in"}, {"wvw", "v"}, {"kqc", "c"}, {"ahha", "a"}, {"sas", "ss"},
            {"hah", "h"}, {"aeiou", "a"}, {"uab", "ub"}, {"bhb", "b"}, {"khan", "cn"}, {"phph", "f"},
            {"pfh", "pf"}, {"fph", "f"}, {"hph", "hf"}, {"php", "fp"}, {"eya", "e"}, {"nanan", "nnn"},
            {"bcdfgklmnprs", "bcdfgclmnprs"}, {"xyz", "xs"}, {"jj", "i"}, {"hphilh", "hfl"}, {"pahp", "pp"}};
        LastSeen seen = null;
        for (int i = 0; i < spelled.length; i++) {
            if (i % 20 == 0) seen = new LastSeen();
            int name = Due.name(seen, spelled[i][0]);
            DUE.is("key of " + spelled[i][0] + " is " + Due.key(seen, name), 1,
                Due.key(seen, name).equals(spelled[i][1]) ? 1 : 0);
        }
    }

    private static void keyRefused() {
        LastSeen seen = Due.with("kara", "hanna");
        DUE.is("key(0, 0), c", 2, seen.key(0, 0));
        DUE.is("key(0, 1), r", 17, seen.key(0, 1));
        DUE.is("key(0, 2), none such", -5, seen.key(0, 2));
        DUE.is("key(0, -2), none such", -5, seen.key(0, -2));
        DUE.is("key(0, greatest int)", -5, seen.key(0, Integer.MAX_VALUE));
        DUE.is("key(2, -1), no such name", -5, seen.key(2, -1));
        DUE.is("key(2, 0), no such name", -5, seen.key(2, 0));
        DUE.is("key(-1, 0), no such name", -5, seen.key(-1, 0));
        DUE.is("key(20, -1), no such name", -5, seen.key(20, -1));
        DUE.is("key(least int, -2), no such name", -5, seen.key(Integer.MIN_VALUE, -2));
        DUE.is("key(0, -1) of a new object", -5, new LastSeen().key(0, -1));
        DUE.is("key(0, 0) of a new object", -5, new LastSeen().key(0, 0));
    }

    /** One KEY is a KEY of the same letters and of as many. */
    private static void keysThatBeginAlike() {
        LastSeen seen = Due.with("kara", "karan", "kar", "akar", "k", "q");
        DUE.is("cr and crn", 0, seen.link(0, 1, -1));
        DUE.is("crn and cr", 0, seen.link(1, 2, -1));
        DUE.is("cr and cr", 1, seen.link(0, 2, -1));
        DUE.is("cr and acr", 0, seen.link(2, 3, -1));
        DUE.is("cr and c", 0, seen.link(0, 4, -1));
        DUE.is("c and c", 1, seen.link(4, 5, -1));
        DUE.is("the crn's PERSON", 1, seen.person(1, -1));
        DUE.is("count(2)", 4, seen.count(2));
    }

    private static void joinAndPart() {
        LastSeen seen = Due.with("kara", "cara", "bob");
        DUE.is("link by KEY", 1, seen.link(0, 1, -1));
        DUE.is("no link", 0, seen.link(2, 0, -1));
        DUE.is("part(1, 0)", 4, seen.part(1, 0));
        DUE.is("link after part", 0, seen.link(0, 1, -1));
        DUE.is("part(0, 1) again", 5, seen.part(0, 1));
        DUE.is("join(0, 1)", 6, seen.join(0, 1));
        DUE.is("link, the last one counts", 1, seen.link(0, 1, -1));
        DUE.is("join(2, 0)", 7, seen.join(2, 0));
        DUE.is("link(0, 2)", 1, seen.link(0, 2, -1));
        DUE.is("link(1, 2), by none of both", 0, seen.link(1, 2, -1));
        DUE.is("person(2), by 0", 0, seen.person(2, -1));
        DUE.is("part(0, 2)", 8, seen.part(0, 2));
        DUE.is("person(2), alone", 2, seen.person(2, -1));
        DUE.is("count(0)", 8, seen.count(0));
    }

    private static void decreesRefused() {
        LastSeen seen = Due.with("a", "b");
        DUE.is("join(0, 2)", LastSeen.NONE, seen.join(0, 2));
        DUE.is("join(-1, 0)", LastSeen.NONE, seen.join(-1, 0));
        DUE.is("join(2, 2), NONE ahead of BAD", LastSeen.NONE, seen.join(2, 2));
        DUE.is("join(1, 1)", LastSeen.BAD, seen.join(1, 1));
        DUE.is("part(0, 2)", LastSeen.NONE, seen.part(0, 2));
        DUE.is("part(-1, 0)", LastSeen.NONE, seen.part(-1, 0));
        DUE.is("part(1, 1)", LastSeen.BAD, seen.part(1, 1));
        DUE.is("count(0)", 2, seen.count(0));
    }

    private static void entriesFull() {
        LastSeen seen = Due.with("a", "b");
        for (int i = 3; i <= 199; i++) DUE.is("part " + i, i, seen.part(0, 1));
        DUE.is("the 200th ENTRY", 200, seen.join(0, 1));
        DUE.is("join with 200 ENTRIES", LastSeen.FULL, seen.join(0, 1));
        DUE.is("part with 200 ENTRIES", LastSeen.FULL, seen.part(0, 1));
        DUE.is("part, BAD ahead of FULL", LastSeen.BAD, seen.part(0, 0));
        DUE.is("link after FULL", 1, seen.link(0, 1, -1));
        DUE.is("link by 200", 1, seen.link(0, 1, 200));
        DUE.is("link by 201", LastSeen.NONE, seen.link(0, 1, 201));
        DUE.is("name with 200 ENTRIES", LastSeen.FULL, Due.name(seen, "c"));
        DUE.is("THE TAPE stays", 1, seen.count(11));
        DUE.is("word with 200 ENTRIES", LastSeen.FULL, seen.word(0, 0, 1, 0, 0, -1));
        DUE.is("rule with 200 ENTRIES", LastSeen.FULL, Due.rule(seen, "x"));
        DUE.is("THE TAPE stays, too", 2, seen.count(11));
        DUE.is("count(0)", 200, seen.count(0));
        DUE.is("count(3)", 0, seen.count(3));
    }

    private static void linksByEntries() {
        LastSeen seen = Due.with("kara", "cara");
        seen.part(0, 1);
        seen.join(0, 1);
        int[] want = {LastSeen.NONE, LastSeen.NONE, 1, 0, 1};
        for (int e = 0; e <= 4; e++) DUE.is("link by " + e, want[e], seen.link(1, 0, e));
        DUE.is("link by 5", LastSeen.NONE, seen.link(0, 1, 5));
        DUE.is("link by -2", LastSeen.NONE, seen.link(0, 1, -2));
        DUE.is("link by greatest int", LastSeen.NONE, seen.link(0, 1, Integer.MAX_VALUE));
        DUE.is("link(0, 0, -1)", LastSeen.BAD, seen.link(0, 0, -1));
        DUE.is("link(1, 1, 1), NONE ahead of BAD", LastSeen.NONE, seen.link(1, 1, 1));
        DUE.is("link(0, 2, -1)", LastSeen.NONE, seen.link(0, 2, -1));
    }

    private static void personsByEntries() {
        LastSeen seen = Due.with("dan", "bob", "bab", "ann");
        seen.join(3, 1);
        seen.join(2, 0);
        int[] ofTwo = {-1, -1, -1, 1, 1, 1, 0};
        for (int e = 0; e <= 6; e++) DUE.is("person(2) by " + e, ofTwo[e], seen.person(2, e));
        int[] ofThree = {-1, -1, -1, -1, 3, 1, 0};
        for (int e = 0; e <= 6; e++) DUE.is("person(3) by " + e, ofThree[e], seen.person(3, e));
        DUE.is("person(3, -1)", 0, seen.person(3, -1));
        DUE.is("person(4, -1)", LastSeen.NONE, seen.person(4, -1));
        DUE.is("person(0, 7)", LastSeen.NONE, seen.person(0, 7));
        DUE.is("person(0, -3)", LastSeen.NONE, seen.person(0, -3));
        DUE.is("count(2)", 1, seen.count(2));
        LastSeen chain = Due.with("xa", "b", "c", "d", "f", "g");
        chain.join(0, 5);
        chain.join(5, 1);
        chain.join(3, 4);
        int[] persons = {0, 0, 2, 3, 3, 0};
        for (int name = 0; name < 6; name++) DUE.is("person " + name, persons[name], chain.person(name, -1));
        DUE.is("count(2) of them", 3, chain.count(2));
        LastSeen between = Due.with("kara", "cara");
        between.part(0, 1);
        Due.name(between, "qara");
        DUE.is("person(1) by 3, PARTED", 1, between.person(1, 3));
        DUE.is("person(1) by 4, by the NAME that came between", 0, between.person(1, 4));
        DUE.is("tie by the NAME that came between", 3, between.tie(0, 1, -1));
        LastSeen later = Due.with("kara", "cara");
        later.part(0, 1);
        later.join(0, 1);
        later.part(0, 1);
        later.part(0, 1);
        Due.name(later, "qara");
        int[] ofOne = {-1, -1, 0, 1, 0, 1, 1, 0};
        for (int e = 0; e <= 7; e++) DUE.is("person(1) by " + e + ", a NAME came last", ofOne[e], later.person(1, e));
        for (int e = 7; e >= 0; e--) DUE.is("person(1) back by " + e, ofOne[e], later.person(1, e));
    }

    private static void ties() {
        LastSeen seen = Due.with("kara", "cara", "bob", "dan");
        DUE.is("tie of LINKED", LastSeen.STATE, seen.tie(0, 1, -1));
        seen.part(1, 0);
        DUE.is("tie of PARTED, not ONE", LastSeen.STATE, seen.tie(0, 1, -1));
        seen.join(0, 2);
        seen.join(2, 3);
        seen.join(3, 1);
        DUE.is("tie, how many", 4, seen.tie(1, 0, -1));
        int[] row = {0, 2, 3, 1};
        for (int i = 0; i < 4; i++) DUE.is("tie, name " + i, row[i], seen.tie(1, 0, i));
        DUE.is("tie, name 4", LastSeen.NONE, seen.tie(1, 0, 4));
        DUE.is("tie of ONE that were not PARTED", LastSeen.STATE, seen.tie(0, 3, -1));
        seen.join(2, 1);
        DUE.is("tie by a shorter way", 3, seen.tie(0, 1, -1));
        DUE.is("tie by a shorter way, name 1", 2, seen.tie(0, 1, 1));
        seen.join(0, 1);
        DUE.is("tie after joining", LastSeen.STATE, seen.tie(0, 1, -1));
    }

    private static void tieTakesLeastRow() {
        LastSeen seen = Due.with("xa", "b", "c", "d", "f", "xo");
        seen.part(0, 5);
        // 0 2 3 5 and 0 1 4 5 have as many NAMES; 0 1 4 5 is the least row, though 2 was JOINED first.
        seen.join(0, 2);
        seen.join(2, 3);
        seen.join(3, 5);
        seen.join(0, 1);
        seen.join(1, 4);
        seen.join(4, 5);
        int[] row = {0, 1, 4, 5};
        DUE.is("least row, how many", 4, seen.tie(5, 0, -1));
        for (int i = 0; i < 4; i++) DUE.is("least row, name " + i, row[i], seen.tie(5, 0, i));
        // Now 0 1 3 5 is less at the third.
        seen.join(1, 3);
        DUE.is("least row, name 2", 3, seen.tie(5, 0, 2));
    }

    private static void tieByNamesBelowIt() {
        LastSeen seen = Due.with("xa", "b", "c", "d", "f", "xo");
        seen.part(2, 1);
        seen.join(1, 0);
        seen.join(0, 2);
        int[] row = {1, 0, 2};
        DUE.is("by NAME 0, how many", 3, seen.tie(2, 1, -1));
        for (int i = 0; i < 3; i++) DUE.is("by NAME 0, name " + i, row[i], seen.tie(1, 2, i));
        LastSeen side = Due.with("xa", "b", "c", "d", "f", "xo");
        side.part(0, 5);
        // 0 4 5 alone is short; 1 is as far from 5 as 0 is.
        int[][] joined = {{0, 1}, {0, 4}, {4, 5}, {1, 3}, {3, 5}};
        for (int[] pair : joined) side.join(pair[0], pair[1]);
        int[] due = {0, 4, 5};
        DUE.is("not by one that is as far, how many", 3, side.tie(0, 5, -1));
        for (int i = 0; i < 3; i++) DUE.is("not by one that is as far, name " + i, due[i], side.tie(0, 5, i));
    }

    /** The longest TIE that there can be: all twenty NAMES in a row. */
    private static void tieOfTwenty() {
        LastSeen seen = new LastSeen();
        for (int i = 0; i < 20; i++) Due.name(seen, "" + "dfg".charAt(i / 7) + "lmnprst".charAt(i % 7));
        DUE.is("PERSONS at first", 20, seen.count(2));
        for (int i = 0; i < 19; i++) seen.join(i + 1, i);
        DUE.is("PERSONS then", 1, seen.count(2));
        seen.part(19, 0);
        DUE.is("all twenty", 20, seen.tie(19, 0, -1));
        for (int i = 0; i < 20; i++) DUE.is("all twenty, name " + i, i, seen.tie(0, 19, i));
        DUE.is("all twenty, name 20", LastSeen.NONE, seen.tie(0, 19, 20));
        DUE.is("all twenty, name 21", LastSeen.NONE, seen.tie(0, 19, 21));
        // Two PERSONS of ten, of which the one has a TIE of all its NAMES.
        seen.part(10, 9);
        DUE.is("no TIE from the one to the other", LastSeen.STATE, seen.tie(0, 19, -1));
        seen.part(0, 9);
        DUE.is("ten of twenty", 10, seen.tie(0, 9, -1));
        for (int i = 0; i < 10; i++) DUE.is("ten of twenty, name " + i, i, seen.tie(0, 9, i));
        seen.part(10, 19);
        for (int i = 0; i < 10; i++) DUE.is("the other ten, name " + i, 10 + i, seen.tie(10, 19, i));
    }

    private static void tieRefused() {
        LastSeen seen = Due.with("a", "b", "c");
        seen.part(0, 1);
        seen.join(0, 2);
        seen.join(1, 2);
        DUE.is("tie(0, 3, -1)", LastSeen.NONE, seen.tie(0, 3, -1));
        DUE.is("tie(-1, 0, -1)", LastSeen.NONE, seen.tie(-1, 0, -1));
        DUE.is("tie(0, 1, -2)", LastSeen.NONE, seen.tie(0, 1, -2));
        DUE.is("tie(0, 1, 3)", LastSeen.NONE, seen.tie(0, 1, 3));
        DUE.is("tie(1, 1, -1)", LastSeen.BAD, seen.tie(1, 1, -1));
        DUE.is("tie(1, 1, -2), NONE ahead of BAD", LastSeen.NONE, seen.tie(1, 1, -2));
        DUE.is("tie(0, 2, -2), NONE ahead of STATE", LastSeen.NONE, seen.tie(0, 2, -2));
        DUE.is("tie(0, 2, 0)", LastSeen.STATE, seen.tie(0, 2, 0));
        DUE.is("count(0)", 6, seen.count(0));
    }
}
