/** Promises 12 to 20: WORDS, ROOTS, EYES, CAN BE, LEAST QUARREL, COULD, LAST. */
public final class WordsTest {
    private static final Due DUE = new Due("WordsTest");

    public static void main(String[] args) {
        wordsEntered();
        wordsRefused();
        wordsFull();
        withdrawals();
        withdrawRefused();
        aboutByEntries();
        rootsOfPerson();
        eyesOfRoots();
        canBe();
        canByPlacesAndWatches();
        canAtTheEdges();
        canLooksAtEight();
        quarrels();
        quarrelTakesLeastSet();
        quarrelOfEight();
        couldBe();
        lastRoot();
        namesThatCameLater();
        DUE.end();
    }

    private static void wordsEntered() {
        LastSeen seen = Due.with("a", "b");
        DUE.is("word, SEEN", 0, seen.word(0, 0, 1, 0, 0, -1));
        DUE.is("word at the edges", 1, seen.word(29, 1, 1023, 0, 999, -1));
        DUE.is("word, HEARD of a word of another NAME", 2, seen.word(29, 0, 512, 999, 999, 1));
        DUE.is("count(0)", 5, seen.count(0));
        DUE.is("count(3)", 3, seen.count(3));
        DUE.is("count(4)", 3, seen.count(4));
    }

    private static void wordsRefused() {
        LastSeen seen = Due.with("a");
        DUE.is("witness -1", LastSeen.NONE, seen.word(-1, 0, 1, 0, 0, -1));
        DUE.is("witness 30", LastSeen.NONE, seen.word(30, 0, 1, 0, 0, -1));
        DUE.is("name 1", LastSeen.NONE, seen.word(0, 1, 1, 0, 0, -1));
        DUE.is("name -1", LastSeen.NONE, seen.word(0, -1, 1, 0, 0, -1));
        DUE.is("of 0, itself", LastSeen.NONE, seen.word(0, 0, 1, 0, 0, 0));
        DUE.is("of -2", LastSeen.NONE, seen.word(0, 0, 1, 0, 0, -2));
        DUE.is("of 5 with bad places, NONE ahead of BAD", LastSeen.NONE, seen.word(0, 0, 0, 0, 0, 5));
        DUE.is("no place", LastSeen.BAD, seen.word(0, 0, 0, 0, 0, -1));
        DUE.is("a place 10", LastSeen.BAD, seen.word(0, 0, 1024, 0, 0, -1));
        DUE.is("places -1", LastSeen.BAD, seen.word(0, 0, -1, 0, 0, -1));
        DUE.is("watch -1", LastSeen.BAD, seen.word(0, 0, 1, -1, 0, -1));
        DUE.is("watch 1000", LastSeen.BAD, seen.word(0, 0, 1, 0, 1000, -1));
        DUE.is("watches the wrong way", LastSeen.BAD, seen.word(0, 0, 1, 6, 5, -1));
        DUE.is("count(3)", 0, seen.count(3));
        DUE.is("count(0)", 1, seen.count(0));
    }

    private static void wordsFull() {
        LastSeen seen = Due.with("a");
        for (int i = 0; i < 40; i++) DUE.is("word " + i, i, seen.word(0, 0, 1, 0, 0, i - 1));
        DUE.is("word 40", LastSeen.FULL, seen.word(0, 0, 1, 0, 0, -1));
        DUE.is("word 40, BAD ahead of FULL", LastSeen.BAD, seen.word(0, 0, 0, 0, 0, -1));
        DUE.is("root of a chain of 40", 0, seen.about(39, -1, 1));
        DUE.is("withdraw the chain's root", 40, seen.withdraw(0));
        DUE.is("count(4)", 0, seen.count(4));
        DUE.is("withdraw the chain's end", 0, seen.withdraw(39));
    }

    private static void withdrawals() {
        LastSeen seen = Due.with("a", "b");
        seen.word(1, 0, 1, 0, 0, -1);
        seen.word(2, 1, 1, 0, 0, 0);
        seen.word(3, 0, 1, 0, 0, 1);
        seen.word(4, 0, 1, 0, 0, 0);
        seen.word(5, 0, 1, 0, 0, -1);
        DUE.is("withdraw(1), with what is HEARD of it", 2, seen.withdraw(1));
        DUE.is("about(2), HEARD of it", 0, seen.about(2, -1, 0));
        DUE.is("about(3), HEARD of its root", 1, seen.about(3, -1, 0));
        DUE.is("withdraw(0), only what stood", 2, seen.withdraw(0));
        DUE.is("withdraw(2), which stood no more", 0, seen.withdraw(2));
        DUE.is("count(4)", 1, seen.count(4));
        DUE.is("a word HEARD of a withdrawn one", 5, seen.word(6, 0, 1, 0, 0, 0));
        DUE.is("it does not stand", 0, seen.about(5, -1, 0));
        DUE.is("count(0)", 11, seen.count(0));
    }

    private static void withdrawRefused() {
        LastSeen seen = Due.with("a");
        seen.word(1, 0, 1, 0, 0, -1);
        seen.word(1, 0, 1, 0, 0, 0);
        DUE.is("withdraw(2)", LastSeen.NONE, seen.withdraw(2));
        DUE.is("withdraw(-1)", LastSeen.NONE, seen.withdraw(-1));
        DUE.is("withdraw(0)", 2, seen.withdraw(0));
        DUE.is("withdraw(0) again", LastSeen.STATE, seen.withdraw(0));
        Due.name(seen, "b");
        while (seen.count(0) < 200) seen.part(0, 1);
        DUE.is("withdraw(0), STATE ahead of FULL", LastSeen.STATE, seen.withdraw(0));
        DUE.is("withdraw(1) with 200 ENTRIES", LastSeen.FULL, seen.withdraw(1));
        LastSeen end = Due.with("a", "b");
        end.word(1, 0, 1, 0, 0, -1);
        while (end.count(0) < 199) end.part(0, 1);
        DUE.is("withdraw(0), the 200th ENTRY", 1, end.withdraw(0));
        DUE.is("withdraw(0) again, then", LastSeen.STATE, end.withdraw(0));
        DUE.is("stands by 199", 1, end.about(0, 199, 0));
        DUE.is("stands by 200", 0, end.about(0, 200, 0));
    }

    private static void aboutByEntries() {
        LastSeen seen = Due.with("a", "b");
        seen.word(1, 1, 1, 0, 0, -1);
        seen.word(2, 1, 1, 0, 0, 0);
        seen.join(0, 1);
        seen.withdraw(0);
        int[] stands = {-1, -1, -1, -1, 1, 1, 0};
        int[] root = {-1, -1, -1, -1, 0, 0, 0};
        int[] person = {-1, -1, -1, -1, 1, 0, 0};
        for (int e = 0; e <= 6; e++) {
            DUE.is("stands by " + e, stands[e], seen.about(1, e, 0));
            DUE.is("root by " + e, root[e], seen.about(1, e, 1));
            DUE.is("person by " + e, person[e], seen.about(1, e, 2));
        }
        DUE.is("what 3", LastSeen.NONE, seen.about(0, -1, 3));
        DUE.is("what -1", LastSeen.NONE, seen.about(0, -1, -1));
        DUE.is("word 2", LastSeen.NONE, seen.about(2, -1, 0));
        DUE.is("word -1", LastSeen.NONE, seen.about(-1, -1, 0));
        DUE.is("e 7", LastSeen.NONE, seen.about(0, 7, 0));
        DUE.is("e -2", LastSeen.NONE, seen.about(0, -2, 0));
    }

    private static void rootsOfPerson() {
        LastSeen seen = Due.with("a", "b", "c");
        seen.word(1, 0, 1, 0, 0, -1);
        seen.word(2, 1, 1, 0, 0, -1);
        seen.word(3, 2, 1, 0, 0, 1);
        seen.word(4, 2, 1, 0, 0, 1);
        seen.word(5, 2, 1, 0, 0, -1);
        seen.word(6, 2, 1, 0, 0, 2);
        DUE.is("roots of c, each once", 2, seen.root(2, -1, -1));
        DUE.is("root 0 of c, of another PERSON", 1, seen.root(2, -1, 0));
        DUE.is("root 1 of c", 4, seen.root(2, -1, 1));
        DUE.is("root 2 of c", LastSeen.NONE, seen.root(2, -1, 2));
        DUE.is("root -2 of c", LastSeen.NONE, seen.root(2, -1, -2));
        DUE.is("roots of b, without what c heard", 1, seen.root(1, -1, -1));
        seen.join(2, 0);
        DUE.is("roots of a and c", 3, seen.root(2, -1, -1));
        DUE.is("roots of c before", 2, seen.root(2, 9, -1));
        DUE.is("roots of a before any WORD", 0, seen.root(0, 3, -1));
        DUE.is("root 0 of a before any WORD", LastSeen.NONE, seen.root(0, 3, 0));
        seen.withdraw(2);
        DUE.is("roots with one of two hearings", 3, seen.root(2, -1, -1));
        seen.withdraw(3);
        DUE.is("roots with none of two hearings", 2, seen.root(2, -1, -1));
        DUE.is("root 1 then", 4, seen.root(0, -1, 1));
        DUE.is("roots as they were", 3, seen.root(0, 11, -1));
        DUE.is("root(3, -1, -1)", LastSeen.NONE, seen.root(3, -1, -1));
        DUE.is("root(0, 13, -1)", LastSeen.NONE, seen.root(0, 13, -1));
    }

    private static void eyesOfRoots() {
        LastSeen seen = Due.with("a", "b");
        seen.word(29, 0, 1, 0, 0, -1);
        seen.word(29, 0, 2, 0, 0, -1);
        seen.word(0, 0, 2, 0, 0, -1);
        seen.word(7, 0, 2, 0, 0, 0);
        DUE.is("eyes, witnesses of ROOTS once each", 2, seen.eyes(0, -1));
        DUE.is("eyes of b", 0, seen.eyes(1, -1));
        DUE.is("eyes by 4", 1, seen.eyes(0, 4));
        seen.withdraw(2);
        DUE.is("eyes after withdrawing", 1, seen.eyes(0, -1));
        DUE.is("eyes(2, -1)", LastSeen.NONE, seen.eyes(2, -1));
        DUE.is("eyes(0, 8)", LastSeen.NONE, seen.eyes(0, 8));
    }

    private static void canBe() {
        LastSeen seen = Due.with("a");
        seen.road(0, 1, 5);
        DUE.is("can of no ROOTS", 1, seen.can(0, -1));
        seen.word(1, 0, 1, 10, 10, -1);
        DUE.is("can of one ROOT", 1, seen.can(0, -1));
        seen.word(1, 0, 1, 10, 20, -1);
        DUE.is("can twice at one PLACE", 1, seen.can(0, -1));
        seen.word(1, 0, 2, 15, 15, -1);
        DUE.is("can, as many WATCHES as FAR", 1, seen.can(0, -1));
        seen.word(1, 0, 1, 19, 19, -1);
        DUE.is("can't be back by 19", 0, seen.can(0, -1));
        seen.road(1, 0, 4);
        DUE.is("can be back by a shorter ROAD", 1, seen.can(0, -1));
        DUE.is("can by 4, by the ROADS of now", 1, seen.can(0, 4));
        seen.word(1, 0, 4, 0, 999, -1);
        DUE.is("can't be where no ROAD leads", 0, seen.can(0, -1));
        seen.word(1, 0, 1, 0, 999, 4);
        DUE.is("can, what is HEARD has its ROOT's PLACES", 0, seen.can(0, -1));
        seen.withdraw(4);
        DUE.is("can without the withdrawn", 1, seen.can(0, -1));
        DUE.is("can as it was", 0, seen.can(0, 7));
        DUE.is("can(1, -1)", LastSeen.NONE, seen.can(1, -1));
        DUE.is("can(0, 9)", LastSeen.NONE, seen.can(0, 9));
        DUE.is("can(0, 0)", LastSeen.NONE, seen.can(0, 0));
    }

    private static void canByPlacesAndWatches() {
        LastSeen seen = Due.with("a", "b");
        seen.road(0, 1, 10);
        seen.road(1, 2, 10);
        seen.word(1, 0, 1 | 4, 0, 0, -1);
        seen.word(1, 0, 2, 10, 10, -1);
        seen.word(1, 0, 1 | 4, 20, 20, -1);
        seen.word(1, 0, 4, 20, 20, -1);
        DUE.is("each pair fits and all do", 1, seen.can(0, -1));
        seen.word(1, 0, 1, 0, 999, -1);
        DUE.is("the wide one fits ahead or behind", 1, seen.can(0, -1));
        // From 0 to 2, either way, takes 20 WATCHES.
        seen.word(1, 1, 1, 0, 5, -1);
        seen.word(1, 1, 2, 0, 15, -1);
        seen.word(1, 1, 4, 0, 19, -1);
        DUE.is("three, by the order that fits", 0, seen.can(1, -1));
        DUE.is("three, the quarrel", 2, seen.quarrel(1, -1, -1));
        LastSeen chain = Due.with("a");
        chain.road(0, 1, 10);
        chain.road(1, 2, 10);
        chain.road(0, 2, 10);
        chain.word(1, 0, 1, 0, 15, -1);
        chain.word(1, 0, 2, 0, 15, -1);
        chain.word(1, 0, 4, 0, 15, -1);
        DUE.is("each two can, the three can't", 0, chain.can(0, -1));
        DUE.is("the quarrel is of three", 3, chain.quarrel(0, -1, -1));
    }

    /** The last PLACE, the last WATCH, and WATCHES one too few. */
    private static void canAtTheEdges() {
        LastSeen seen = Due.with("a");
        seen.road(9, 8, 30);
        seen.word(1, 0, 512, 999, 999, -1);
        DUE.is("could at the last PLACE and WATCH", 1, seen.could(0, -1, 9, 999));
        DUE.is("could at the last WATCH elsewhere", 0, seen.could(0, -1, 8, 999));
        DUE.is("could as many WATCHES ahead as FAR", 1, seen.could(0, -1, 8, 969));
        DUE.is("could one too few ahead", 0, seen.could(0, -1, 8, 970));
        DUE.is("could at the first WATCH", 1, seen.could(0, -1, 8, 0));
        seen.word(1, 0, 256, 969, 969, -1);
        DUE.is("can, as many as FAR", 1, seen.can(0, -1));
        seen.word(1, 0, 256, 970, 999, -1);
        DUE.is("can't, one too few on any way", 0, seen.can(0, -1));
        DUE.is("quarrel of the first and the third", 2, seen.quarrel(0, -1, -1));
        DUE.is("quarrel, the second", 2, seen.quarrel(0, -1, 1));
        seen.withdraw(2);
        seen.word(1, 0, 1023, 0, 0, -1);
        DUE.is("can, at any of ten PLACES", 1, seen.can(0, -1));
        DUE.is("could, by the tenth's neighbour", 1, seen.could(0, -1, 9, 30));
        DUE.is("could not be where no ROAD leads", 0, seen.could(0, -1, 7, 30));
        LastSeen choice = Due.with("a");
        choice.road(0, 9, 10);
        choice.word(1, 0, 1 | 512, 0, 0, -1);
        choice.word(1, 0, 2 | 512, 3, 3, -1);
        DUE.is("can, both at the one PLACE that they share", 1, choice.can(0, -1));
        choice.word(1, 0, 1, 12, 12, -1);
        DUE.is("can't by the one PLACE", 0, choice.can(0, -1));
        choice.withdraw(2);
        choice.word(1, 0, 1, 13, 13, -1);
        DUE.is("can by the one PLACE", 1, choice.can(0, -1));
        LastSeen order = Due.with("a");
        order.road(4, 6, 10);
        order.word(1, 0, 1 << 4, 0, 30, -1);
        order.word(1, 0, 1 << 6, 3, 3, -1);
        DUE.is("can, the second ahead of the first", 1, order.can(0, -1));
        DUE.is("could wait there", 1, order.could(0, -1, 6, 20));
        DUE.is("could not be in time for both", 0, order.could(0, -1, 6, 21));
        DUE.is("nor yet be back", 0, order.could(0, -1, 6, 22));
        DUE.is("could be back", 1, order.could(0, -1, 6, 23));
    }

    private static void canLooksAtEight() {
        LastSeen seen = Due.with("a");
        for (int i = 0; i < 8; i++) seen.word(i, 0, 1, 0, 0, -1);
        seen.word(8, 0, 2, 0, 0, -1);
        DUE.is("can of the first 8 of 9", 1, seen.can(0, -1));
        DUE.is("could beside the first 8", 1, seen.could(0, -1, 0, 999));
        DUE.is("quarrel of the first 8 of 9", LastSeen.STATE, seen.quarrel(0, -1, -1));
        DUE.is("all 9 are ROOTS", 9, seen.root(0, -1, -1));
        DUE.is("all 9 are EYES", 9, seen.eyes(0, -1));
        seen.withdraw(3);
        DUE.is("the ninth becomes the eighth", 0, seen.can(0, -1));
        DUE.is("quarrel with the eighth", 2, seen.quarrel(0, -1, -1));
        DUE.is("quarrel, the first", 0, seen.quarrel(0, -1, 0));
        DUE.is("quarrel, the second", 8, seen.quarrel(0, -1, 1));
    }

    private static void quarrels() {
        LastSeen seen = Due.with("a", "b");
        DUE.is("quarrel of none", LastSeen.STATE, seen.quarrel(0, -1, -1));
        seen.word(1, 0, 1, 0, 999, -1);
        seen.word(1, 1, 1, 0, 0, -1);
        seen.word(1, 0, 1, 0, 0, -1);
        seen.word(1, 0, 2, 0, 0, -1);
        DUE.is("quarrel, how many", 2, seen.quarrel(0, -1, -1));
        DUE.is("quarrel, the least set", 0, seen.quarrel(0, -1, 0));
        DUE.is("quarrel, the second", 3, seen.quarrel(0, -1, 1));
        DUE.is("quarrel, the third", LastSeen.NONE, seen.quarrel(0, -1, 2));
        DUE.is("quarrel, i greatest int", LastSeen.NONE, seen.quarrel(0, -1, Integer.MAX_VALUE));
        DUE.is("quarrel, i -2", LastSeen.NONE, seen.quarrel(0, -1, -2));
        DUE.is("quarrel, i -2 of none, NONE ahead of STATE", LastSeen.NONE, seen.quarrel(1, -1, -2));
        DUE.is("quarrel of b", LastSeen.STATE, seen.quarrel(1, -1, 0));
        DUE.is("quarrel by 5", LastSeen.STATE, seen.quarrel(0, 5, -1));
        DUE.is("quarrel(2, -1, -1)", LastSeen.NONE, seen.quarrel(2, -1, -1));
        DUE.is("quarrel(0, 7, -1)", LastSeen.NONE, seen.quarrel(0, 7, -1));
        seen.withdraw(3);
        DUE.is("quarrel of those that stand now", LastSeen.STATE, seen.quarrel(0, -1, -1));
        DUE.is("quarrel as it was", 2, seen.quarrel(0, 6, -1));
    }

    private static void quarrelTakesLeastSet() {
        LastSeen seen = Due.with("a");
        seen.road(0, 1, 10);
        seen.word(1, 0, 1, 0, 30, -1);
        seen.word(1, 0, 2, 13, 14, -1);
        seen.word(1, 0, 1, 20, 20, -1);
        seen.word(1, 0, 2, 15, 16, -1);
        seen.word(1, 0, 1, 5, 5, -1);
        // Of two: {1, 2}, {2, 3}, {1, 4} can't: as bits 6, 12, 18.
        DUE.is("quarrel, how many", 2, seen.quarrel(0, -1, -1));
        DUE.is("quarrel, the first", 1, seen.quarrel(0, -1, 0));
        DUE.is("quarrel, the second", 2, seen.quarrel(0, -1, 1));
        seen.withdraw(1);
        DUE.is("quarrel then, the first", 2, seen.quarrel(0, -1, 0));
        DUE.is("quarrel then, the second", 3, seen.quarrel(0, -1, 1));
        LastSeen fewer = Due.with("a");
        int[][] roads = {{0, 1}, {1, 2}, {0, 2}};
        for (int[] road : roads) fewer.road(road[0], road[1], 10);
        for (int place = 0; place < 3; place++) fewer.word(1, 0, 1 << place, 0, 15, -1);
        DUE.is("three that can't, as bits 7", 3, fewer.quarrel(0, -1, -1));
        for (int i = 0; i < 3; i++) DUE.is("of three, " + i, i, fewer.quarrel(0, -1, i));
        fewer.word(1, 0, 8, 0, 0, -1);
        DUE.is("two that can't, as bits 9, are fewer", 2, fewer.quarrel(0, -1, -1));
        DUE.is("of two, the first", 0, fewer.quarrel(0, -1, 0));
        DUE.is("of two, the second", 3, fewer.quarrel(0, -1, 1));
    }

    /** As long as a LEAST QUARREL can be: eight PLACES, and time for a walk by seven of them. */
    private static void quarrelOfEight() {
        LastSeen seen = Due.with("a");
        for (int a = 0; a < 8; a++) {
            for (int b = 0; b < a; b++) seen.road(a, b, 10);
        }
        for (int place = 0; place < 8; place++) seen.word(1, 0, 1 << place, 0, 69, -1);
        DUE.is("eight can't", 0, seen.can(0, -1));
        DUE.is("quarrel of eight", 8, seen.quarrel(0, -1, -1));
        for (int i = 0; i < 8; i++) DUE.is("quarrel of eight, " + i, i, seen.quarrel(0, -1, i));
        DUE.is("quarrel of eight, 8", LastSeen.NONE, seen.quarrel(0, -1, 8));
        seen.word(1, 0, 1, 999, 999, -1);
        DUE.is("quarrel of eight, the ninth ROOT does not count", 8, seen.quarrel(0, -1, -1));
        seen.withdraw(0);
        DUE.is("seven and the ninth can", 1, seen.can(0, -1));
        DUE.is("could not be at an eighth PLACE by 69", 0, seen.could(0, -1, 0, 69));
        DUE.is("could be there by 70", 1, seen.could(0, -1, 0, 70));
    }

    private static void couldBe() {
        LastSeen seen = Due.with("a", "b");
        seen.road(0, 1, 7);
        DUE.is("could with no ROOTS", 1, seen.could(0, -1, 9, 999));
        seen.word(1, 0, 1, 100, 110, -1);
        DUE.is("could, behind", 1, seen.could(0, -1, 1, 107));
        DUE.is("could, too soon behind", 0, seen.could(0, -1, 1, 106));
        DUE.is("could, ahead", 1, seen.could(0, -1, 1, 103));
        DUE.is("could not, between", 0, seen.could(0, -1, 1, 104));
        DUE.is("could at the same PLACE", 1, seen.could(0, -1, 0, 105));
        DUE.is("could where no ROAD leads", 0, seen.could(0, -1, 2, 0));
        DUE.is("could by 2, before the WORD", 1, seen.could(0, 2, 2, 0));
        seen.word(1, 0, 2, 100, 100, -1);
        DUE.is("could, behind both", 1, seen.could(0, -1, 1, 120));
        DUE.is("could, on the way", 0, seen.could(0, -1, 0, 106));
        DUE.is("could, by then there", 1, seen.could(0, -1, 0, 107));
        seen.word(1, 0, 4, 100, 100, -1);
        DUE.is("could of ROOTS that can't be", 0, seen.could(0, -1, 0, 110));
        DUE.is("could(2, ..)", LastSeen.NONE, seen.could(2, -1, 0, 0));
        DUE.is("could, place 10", LastSeen.NONE, seen.could(0, -1, 10, 0));
        DUE.is("could, place -1 and a bad watch", LastSeen.NONE, seen.could(0, -1, -1, -1));
        DUE.is("could, watch -1", LastSeen.BAD, seen.could(0, -1, 0, -1));
        DUE.is("could, watch 1000", LastSeen.BAD, seen.could(0, -1, 0, 1000));
        DUE.is("could by 6", LastSeen.NONE, seen.could(0, 6, 0, 0));
        seen.withdraw(2);
        DUE.is("could of those that stand now", 1, seen.could(0, -1, 0, 110));
        DUE.is("could as it was", 0, seen.could(0, 5, 0, 110));
    }

    private static void lastRoot() {
        LastSeen seen = Due.with("a", "b");
        DUE.is("last of none", -5, seen.last(0, -1));
        seen.word(1, 0, 1, 5, 50, -1);
        seen.word(1, 0, 1, 40, 50, -1);
        DUE.is("last, of several the least", 0, seen.last(0, -1));
        seen.word(1, 1, 1, 0, 60, -1);
        seen.word(1, 0, 1, 0, 0, 2);
        DUE.is("last, by the ROOT's own WATCHES", 2, seen.last(0, -1));
        DUE.is("last of b", 2, seen.last(1, -1));
        seen.word(1, 1, 1, 59, 59, -1);
        seen.word(1, 1, 1, 0, 60, -1);
        DUE.is("last of b, not the later ones", 2, seen.last(1, -1));
        for (int i = 0; i < 8; i++) seen.word(1, 0, 1, 0, 1, -1);
        seen.word(1, 0, 1, 0, 999, -1);
        DUE.is("last, of all ROOTS, not 8", 14, seen.last(0, -1));
        seen.withdraw(14);
        DUE.is("last, of those that stand", 2, seen.last(0, -1));
        DUE.is("last by 4", 0, seen.last(0, 4));
        DUE.is("last(2, -1)", LastSeen.NONE, seen.last(2, -1));
        DUE.is("last(0, 99)", LastSeen.NONE, seen.last(0, 99));
    }

    private static void namesThatCameLater() {
        LastSeen seen = Due.with("a", "b");
        DUE.is("root", LastSeen.NONE, seen.root(1, 1, -1));
        DUE.is("eyes", LastSeen.NONE, seen.eyes(1, 1));
        DUE.is("can", LastSeen.NONE, seen.can(1, 1));
        DUE.is("quarrel", LastSeen.NONE, seen.quarrel(1, 1, -1));
        DUE.is("could", LastSeen.NONE, seen.could(1, 1, 0, 0));
        DUE.is("last", LastSeen.NONE, seen.last(1, 1));
        DUE.is("finding", LastSeen.NONE, seen.finding(1, 1));
        DUE.is("person", LastSeen.NONE, seen.person(1, 1));
    }
}
