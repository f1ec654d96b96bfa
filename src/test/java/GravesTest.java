/** Promises 25 to 37: BONES, LEAST PERSONS, SETS, MISSING, NAMINGS, NAMED, count. */
public final class GravesTest {
    private static final Due DUE = new Due("GravesTest");

    public static void main(String[] args) {
        bonesLaid();
        bonesRefused();
        bounds();
        leastPersons();
        leastPersonsAtTheEdges();
        setsAdded();
        setsRefused();
        missingTold();
        missingRefused();
        fits();
        namingsCounted();
        namingsOfOnePerson();
        namingsCapped();
        onlyOne();
        onlyRefused();
        whyNot();
        gives();
        givesEight();
        givenKeepOthersOff();
        givenThatBecomeOne();
        givenThatBecomeOneBarOthers();
        takes();
        counts();
        DUE.end();
    }

    private static void bonesLaid() {
        LastSeen seen = new LastSeen();
        DUE.is("bone", 1, seen.bone(3, 3, 1, 99));
        DUE.is("bone of the other side", 1, seen.bone(3, 3, 0, 0));
        DUE.is("bone of another PAIR", 1, seen.bone(3, 2, 1, 99));
        DUE.is("bone of another GRAVE", 1, seen.bone(2, 3, 1, 99));
        DUE.is("bone of the same", 2, seen.bone(3, 3, 1, 99));
        for (int i = 3; i <= 12; i++) DUE.is("bone " + i, i, seen.bone(3, 3, 1, 50));
        DUE.is("bone 13", LastSeen.FULL, seen.bone(3, 3, 1, 50));
        DUE.is("bone of the other side then", 2, seen.bone(3, 3, 0, 50));
        DUE.is("BAD ahead of FULL", LastSeen.BAD, seen.bone(3, 3, 1, 100));
        DUE.is("least(3)", 13, seen.least(3));
    }

    private static void bonesRefused() {
        LastSeen seen = new LastSeen();
        DUE.is("grave -1", LastSeen.NONE, seen.bone(-1, 0, 0, 0));
        DUE.is("grave 4 and bad numbers", LastSeen.NONE, seen.bone(4, -1, -1, -1));
        DUE.is("pair -1", LastSeen.BAD, seen.bone(0, -1, 0, 0));
        DUE.is("pair 4", LastSeen.BAD, seen.bone(0, 4, 0, 0));
        DUE.is("side -1", LastSeen.BAD, seen.bone(0, 0, -1, 0));
        DUE.is("side 2", LastSeen.BAD, seen.bone(0, 0, 2, 0));
        DUE.is("size -1", LastSeen.BAD, seen.bone(0, 0, 0, -1));
        DUE.is("size 100", LastSeen.BAD, seen.bone(0, 0, 0, 100));
        DUE.is("least(-1)", LastSeen.NONE, seen.least(-1));
        DUE.is("least(4)", LastSeen.NONE, seen.least(4));
        DUE.is("least(0)", 0, seen.least(0));
    }

    private static void bounds() {
        LastSeen seen = new LastSeen();
        DUE.is("bound(20), 2 at first", 2, seen.bound(20));
        DUE.is("bound(0)", 20, seen.bound(0));
        DUE.is("bound(21)", LastSeen.BAD, seen.bound(21));
        DUE.is("bound(-1)", LastSeen.BAD, seen.bound(-1));
        DUE.is("bound(5) after refusals", 0, seen.bound(5));
    }

    private static void leastPersons() {
        LastSeen seen = new LastSeen();
        seen.bone(0, 0, 0, 10);
        seen.bone(0, 0, 1, 12);
        DUE.is("a couple by BOUND", 1, seen.least(0));
        seen.bound(1);
        DUE.is("none by a lesser BOUND", 2, seen.least(0));
        seen.bound(2);
        seen.bone(0, 0, 0, 14);
        seen.bone(0, 0, 1, 16);
        // 14 must go with 16, so that 10 can have 12.
        DUE.is("the most couples", 2, seen.least(0));
        seen.bone(0, 0, 0, 12);
        DUE.is("one left over", 3, seen.least(0));
        for (int i = 0; i < 4; i++) seen.bone(0, 3, 1, i * 10);
        DUE.is("the greatest of all PAIRS", 4, seen.least(0));
        DUE.is("another GRAVE", 0, seen.least(1));
        seen.bound(20);
        DUE.is("lefts alone make no couples", 4, seen.least(0));
        LastSeen cross = new LastSeen();
        int[] lefts = {50, 30, 10, 32};
        int[] rights = {31, 48, 34, 90};
        for (int size : lefts) cross.bone(2, 1, 0, size);
        for (int size : rights) cross.bone(2, 1, 1, size);
        DUE.is("couples in whatever order they came", 5, cross.least(2));
        LastSeen small = new LastSeen();
        small.bone(1, 2, 0, 40);
        small.bone(1, 2, 0, 80);
        small.bone(1, 2, 1, 10);
        small.bone(1, 2, 1, 41);
        small.bone(1, 2, 1, 60);
        small.bone(1, 2, 1, 78);
        DUE.is("rights that are too small", 4, small.least(1));
    }

    private static void leastPersonsAtTheEdges() {
        LastSeen seen = new LastSeen();
        DUE.is("no BONES", 0, seen.least(0));
        seen.bone(0, 0, 0, 0);
        DUE.is("a left of SIZE 0 and no right", 1, seen.least(0));
        seen.bone(0, 0, 1, 2);
        DUE.is("SIZES that differ by the BOUND of at first", 1, seen.least(0));
        seen.bone(1, 0, 0, 3);
        seen.bone(1, 0, 1, 0);
        DUE.is("SIZES that differ by one more", 2, seen.least(1));
        seen.bound(0);
        DUE.is("BOUND 0, SIZES that differ", 2, seen.least(0));
        seen.bone(0, 0, 1, 0);
        DUE.is("BOUND 0, SIZES that do not", 2, seen.least(0));
        seen.bone(2, 3, 0, 79);
        seen.bone(2, 3, 1, 99);
        seen.bone(3, 3, 0, 99);
        seen.bone(3, 3, 1, 78);
        DUE.is("BOUND 0, by 20", 2, seen.least(2));
        seen.bound(20);
        DUE.is("BOUND 20, by 20", 1, seen.least(2));
        DUE.is("BOUND 20, by 21", 2, seen.least(3));
        LastSeen full = new LastSeen();
        for (int i = 0; i < 12; i++) {
            full.bone(0, 1, 0, i);
            full.bone(0, 1, 1, 99 - i);
            full.bone(0, 2, 1, 50);
        }
        DUE.is("twelve of each side, none of one person", 24, full.least(0));
        for (int i = 0; i < 12; i++) full.bone(1, 1, i % 2, i / 2 * 5);
        DUE.is("six couples", 6, full.least(1));
    }

    private static void setsAdded() {
        LastSeen seen = new LastSeen();
        for (int i = 0; i < 8; i++) DUE.is("set " + i, i, seen.set(i % 4, 100, 220, 0, 255));
        DUE.is("set 8", LastSeen.FULL, seen.set(0, 100, 220, 0, 0));
        DUE.is("set 8, BAD ahead of FULL", LastSeen.BAD, seen.set(0, 99, 220, 0, 0));
        DUE.is("count(8)", 8, seen.count(8));
        DUE.is("namings of the eighth", 0, seen.namings(128));
        DUE.is("namings of a ninth", LastSeen.BAD, seen.namings(256));
    }

    private static void setsRefused() {
        LastSeen seen = new LastSeen();
        DUE.is("grave 4", LastSeen.NONE, seen.set(4, 100, 220, 0, 0));
        DUE.is("grave -1 and bad numbers", LastSeen.NONE, seen.set(-1, 0, 0, -1, -1));
        DUE.is("low 99", LastSeen.BAD, seen.set(0, 99, 220, 0, 0));
        DUE.is("high 221", LastSeen.BAD, seen.set(0, 100, 221, 0, 0));
        DUE.is("the wrong way", LastSeen.BAD, seen.set(0, 151, 150, 0, 0));
        DUE.is("has 256", LastSeen.BAD, seen.set(0, 100, 220, 256, 0));
        DUE.is("has -1", LastSeen.BAD, seen.set(0, 100, 220, -1, 0));
        DUE.is("hasNot 256", LastSeen.BAD, seen.set(0, 100, 220, 0, 256));
        DUE.is("hasNot -1", LastSeen.BAD, seen.set(0, 100, 220, 0, -1));
        DUE.is("one MARK both", LastSeen.BAD, seen.set(0, 100, 220, 3, 2));
        DUE.is("count(8)", 0, seen.count(8));
        DUE.is("one height", 0, seen.set(0, 150, 150, 254, 1));
    }

    private static void missingTold() {
        LastSeen seen = Due.with("a", "b", "c", "d", "f", "g", "l", "m", "n", "r", "t");
        for (int i = 0; i < 10; i++) DUE.is("missing " + i, i + 1, seen.missing(i, 0, 0, 0));
        DUE.is("missing 10", LastSeen.FULL, seen.missing(10, 0, 0, 0));
        DUE.is("missing 10, BAD ahead of FULL", LastSeen.BAD, seen.missing(10, 99, 0, 0));
        DUE.is("told anew", 10, seen.missing(4, 150, 0, 0));
        seen.set(0, 151, 160, 0, 0);
        DUE.is("fit by what was told anew", 0, seen.fit(0, 4));
        DUE.is("told anew again", 10, seen.missing(4, 151, 0, 0));
        DUE.is("fit then", 1, seen.fit(0, 4));
        DUE.is("count(9)", 10, seen.count(9));
        DUE.is("MISSING is no ENTRY", 11, seen.count(0));
    }

    private static void missingRefused() {
        LastSeen seen = Due.with("a", "b");
        DUE.is("name 2", LastSeen.NONE, seen.missing(2, 0, 0, 0));
        DUE.is("name -1 and a bad height", LastSeen.NONE, seen.missing(-1, 1, 0, 0));
        int[] heights = {-1, 1, 99, 221};
        for (int height : heights) DUE.is("height " + height, LastSeen.BAD, seen.missing(0, height, 0, 0));
        DUE.is("had 256", LastSeen.BAD, seen.missing(0, 0, 256, 0));
        DUE.is("had -1", LastSeen.BAD, seen.missing(0, 0, -1, 0));
        DUE.is("hadNot 256", LastSeen.BAD, seen.missing(0, 0, 0, 256));
        DUE.is("hadNot -1", LastSeen.BAD, seen.missing(0, 0, 0, -1));
        DUE.is("one MARK both", LastSeen.BAD, seen.missing(0, 0, 128, 129));
        DUE.is("count(9)", 0, seen.count(9));
        DUE.is("height 100", 1, seen.missing(0, 100, 255, 0));
        DUE.is("height 220", 2, seen.missing(1, 220, 0, 255));
        seen.set(0, 100, 100, 0, 0);
        DUE.is("give(0)", 0, seen.give(0));
        DUE.is("NAMED, told anew", LastSeen.STATE, seen.missing(0, 100, 0, 0));
        DUE.is("NAMED, BAD ahead of STATE", LastSeen.BAD, seen.missing(0, 99, 0, 0));
        DUE.is("not NAMED, told anew", 2, seen.missing(1, 0, 0, 0));
        seen.take(0);
        DUE.is("UNNAMED, told anew", 2, seen.missing(0, 0, 0, 0));
    }

    private static void fits() {
        LastSeen seen = Due.with("a", "b");
        seen.set(0, 150, 160, 1, 2);
        Object[][] due = {{149, 0, 0, 0}, {150, 0, 0, 1}, {160, 0, 0, 1}, {161, 0, 0, 0}, {0, 0, 0, 1},
            {155, 1, 2, 1}, {155, 2, 0, 0}, {155, 0, 1, 0}, {155, 4, 8, 1}, {0, 255, 0, 0}, {0, 0, 255, 0},
            {0, 253, 2, 1}, {0, 4, 254 - 4, 1}};
        for (Object[] row : due) {
            int height = (Integer) row[0];
            int had = (Integer) row[1];
            int hadNot = (Integer) row[2];
            seen.missing(1, height, had, hadNot);
            DUE.is("fit of " + height + " " + had + " " + hadNot, (Integer) row[3], seen.fit(0, 1));
        }
        DUE.is("fit(1, 1)", LastSeen.NONE, seen.fit(1, 1));
        DUE.is("fit(-1, 1)", LastSeen.NONE, seen.fit(-1, 1));
        DUE.is("fit(0, 0), not MISSING", LastSeen.NONE, seen.fit(0, 0));
        DUE.is("fit(0, 2)", LastSeen.NONE, seen.fit(0, 2));
        DUE.is("fit(0, -1)", LastSeen.NONE, seen.fit(0, -1));
    }

    private static void namingsCounted() {
        LastSeen seen = Due.with("a", "b", "c");
        seen.set(0, 100, 150, 0, 0);
        seen.set(1, 140, 220, 0, 0);
        seen.set(2, 100, 220, 0, 0);
        DUE.is("namings of none", 1, seen.namings(0));
        DUE.is("namings with no MISSING", 0, seen.namings(1));
        seen.missing(0, 120, 0, 0);
        seen.missing(1, 145, 0, 0);
        seen.missing(2, 200, 0, 0);
        DUE.is("namings(1)", 2, seen.namings(1));
        DUE.is("namings(2)", 2, seen.namings(2));
        DUE.is("namings(4)", 3, seen.namings(4));
        DUE.is("namings(3)", 3, seen.namings(3));
        DUE.is("namings(5)", 4, seen.namings(5));
        DUE.is("namings(7)", 3, seen.namings(7));
        DUE.is("namings(8)", LastSeen.BAD, seen.namings(8));
        DUE.is("namings(9)", LastSeen.BAD, seen.namings(9));
        DUE.is("namings(-1)", LastSeen.BAD, seen.namings(-1));
        DUE.is("namings(least int)", LastSeen.BAD, seen.namings(Integer.MIN_VALUE));
    }

    private static void namingsOfOnePerson() {
        LastSeen seen = Due.with("kara", "cara", "bob");
        seen.set(0, 100, 220, 0, 0);
        seen.set(0, 100, 220, 0, 0);
        for (int i = 0; i < 3; i++) seen.missing(i, 0, 0, 0);
        DUE.is("each spelling is a way", 3, seen.namings(1));
        DUE.is("no two of one PERSON", 4, seen.namings(3));
        seen.part(0, 1);
        DUE.is("PARTED", 6, seen.namings(3));
        seen.join(0, 2);
        seen.join(1, 2);
        DUE.is("all ONE", 0, seen.namings(3));
        DUE.is("all ONE, a single SET", 3, seen.namings(2));
    }

    private static void namingsCapped() {
        LastSeen seen = Due.with("a", "b", "c", "d", "f", "g", "l", "m", "n", "r");
        for (int i = 0; i < 8; i++) seen.set(0, 100, 220, 0, 0);
        for (int i = 0; i < 9; i++) seen.missing(i, 0, 0, 0);
        DUE.is("8 SETS, 9 MISSING", 362880, seen.namings(255));
        DUE.is("7 SETS, 9 MISSING", 181440, seen.namings(127));
        seen.missing(9, 0, 0, 0);
        DUE.is("7 SETS, 10 MISSING", 604800, seen.namings(127));
        DUE.is("8 SETS, 10 MISSING, as many or more", 1000000, seen.namings(255));
        DUE.is("only of so many", -5, seen.only(0, 255));
        DUE.is("why of so many", 0, seen.why(255));
    }

    private static void onlyOne() {
        LastSeen seen = Due.with("a", "b", "c");
        seen.set(0, 100, 150, 0, 0);
        seen.set(0, 100, 220, 0, 0);
        seen.missing(2, 120, 0, 0);
        seen.missing(1, 200, 0, 0);
        DUE.is("only of one that one FITS", 2, seen.only(0, 1));
        DUE.is("only of one that two FIT", -5, seen.only(1, 2));
        DUE.is("only, as the other is taken", 1, seen.only(1, 3));
        DUE.is("only with no NAMING", -5, onlyWithNoNaming());
        seen.missing(0, 130, 0, 0);
        DUE.is("only, no more", -5, seen.only(0, 1));
        seen.join(0, 2);
        DUE.is("only of two NAMES that are ONE", -5, seen.only(0, 1));
        DUE.is("only of the other, by that they are ONE", 1, seen.only(1, 3));
        LastSeen two = Due.with("a", "b", "c");
        two.set(0, 150, 160, 0, 0);
        two.missing(0, 140, 0, 0);
        two.missing(1, 150, 0, 0);
        two.missing(2, 160, 0, 0);
        DUE.is("only of two that are not the first MISSING", -5, two.only(0, 1));
        two.missing(1, 149, 0, 0);
        DUE.is("only of the third MISSING", 2, two.only(0, 1));
        two.missing(2, 161, 0, 0);
        DUE.is("only of none that FITS", -5, two.only(0, 1));
    }

    private static int onlyWithNoNaming() {
        LastSeen seen = Due.with("a");
        seen.set(0, 100, 220, 0, 0);
        seen.set(0, 100, 220, 0, 0);
        seen.missing(0, 0, 0, 0);
        return seen.only(0, 3);
    }

    private static void onlyRefused() {
        LastSeen seen = Due.with("a");
        seen.set(0, 100, 220, 0, 0);
        seen.set(0, 100, 220, 0, 0);
        DUE.is("only(2, 7)", LastSeen.NONE, seen.only(2, 7));
        DUE.is("only(-1, 1)", LastSeen.NONE, seen.only(-1, 1));
        DUE.is("only(0, 2), not of them", LastSeen.BAD, seen.only(0, 2));
        DUE.is("only(0, 0)", LastSeen.BAD, seen.only(0, 0));
        DUE.is("only(0, 5), a bit of none", LastSeen.BAD, seen.only(0, 5));
        DUE.is("only(0, -1)", LastSeen.BAD, seen.only(0, -1));
        DUE.is("only(0, 3) of no MISSING", -5, seen.only(0, 3));
    }

    private static void whyNot() {
        LastSeen seen = Due.with("a", "b", "c");
        seen.set(0, 100, 110, 0, 0);
        seen.set(0, 100, 120, 0, 0);
        seen.set(1, 100, 120, 0, 0);
        seen.set(1, 200, 220, 0, 0);
        seen.missing(0, 105, 0, 0);
        seen.missing(1, 115, 0, 0);
        DUE.is("why(15), none for the last", 8, seen.why(15));
        DUE.is("why(7), three for two", 7, seen.why(7));
        DUE.is("why(6)", 0, seen.why(6));
        DUE.is("why(0)", 0, seen.why(0));
        seen.missing(2, 210, 0, 0);
        DUE.is("why(15) then", 7, seen.why(15));
        seen.join(0, 1);
        DUE.is("why(15), of several the least", 3, seen.why(15));
        DUE.is("why(14)", 6, seen.why(14));
        DUE.is("why(13)", 5, seen.why(13));
        DUE.is("why(16)", LastSeen.BAD, seen.why(16));
        DUE.is("why(-1)", LastSeen.BAD, seen.why(-1));
    }

    private static void gives() {
        LastSeen seen = Due.with("a", "b");
        seen.set(0, 100, 150, 0, 0);
        seen.set(0, 100, 220, 0, 0);
        seen.missing(0, 120, 0, 0);
        DUE.is("give with no NAMING of the GRAVE", LastSeen.STATE, seen.give(0));
        seen.missing(1, 0, 0, 0);
        DUE.is("give with two", LastSeen.STATE, seen.give(0));
        seen.missing(1, 151, 0, 0);
        DUE.is("give(1), as the other has to have 0", 1, seen.give(1));
        DUE.is("give(1) again", LastSeen.STATE, seen.give(1));
        DUE.is("give(0)", 0, seen.give(0));
        DUE.is("give(0) again", LastSeen.STATE, seen.give(0));
        DUE.is("named(0)", 0, seen.named(0));
        DUE.is("named(1)", 1, seen.named(1));
        DUE.is("count(10)", 2, seen.count(10));
        DUE.is("only of a NAMED one", 0, seen.only(0, 1));
        DUE.is("NAMED is no ENTRY", 2, seen.count(0));
        DUE.is("give(2)", LastSeen.NONE, seen.give(2));
        DUE.is("give(-1)", LastSeen.NONE, seen.give(-1));
        DUE.is("named(2)", LastSeen.NONE, seen.named(2));
        DUE.is("named(-1)", LastSeen.NONE, seen.named(-1));
        LastSeen other = Due.with("a");
        other.set(0, 200, 220, 0, 0);
        other.set(1, 100, 150, 0, 0);
        other.missing(0, 120, 0, 0);
        DUE.is("give, by the SETS of its own GRAVE alone", 0, other.give(1));
    }

    /** All eight SETS of one GRAVE, each of one height, and ten MISSING. */
    private static void givesEight() {
        LastSeen seen = Due.with("a", "b", "c", "d", "f", "g", "l", "m", "n", "r");
        for (int i = 0; i < 8; i++) seen.set(3, 100 + i, 100 + i, 0, 0);
        for (int i = 0; i < 10; i++) seen.missing(9 - i, 109 - i, 0, 0);
        DUE.is("namings of eight", 1, seen.namings(255));
        DUE.is("why of eight", 0, seen.why(255));
        for (int i = 7; i >= 0; i--) {
            DUE.is("only of " + i, i, seen.only(i, 255));
            DUE.is("give(" + i + ") of eight", i, seen.give(i));
        }
        DUE.is("count(10)", 8, seen.count(10));
        DUE.is("namings of eight NAMED", 1, seen.namings(255));
        DUE.is("take(3), and 2, 1, 0 that were later", 4, seen.take(3));
        for (int i = 0; i < 8; i++) DUE.is("named(" + i + ") of eight", i < 4 ? -5 : i, seen.named(i));
    }

    private static void givenKeepOthersOff() {
        LastSeen seen = Due.with("kara", "cara", "bob");
        seen.set(0, 150, 150, 0, 0);
        seen.set(1, 100, 220, 0, 0);
        seen.missing(0, 150, 0, 0);
        seen.missing(1, 160, 0, 0);
        seen.missing(2, 170, 0, 0);
        DUE.is("namings of the other GRAVE before", 3, seen.namings(2));
        DUE.is("give(0)", 0, seen.give(0));
        seen.missing(2, 150, 0, 0);
        DUE.is("namings of the NAMED one, though another one FITS", 1, seen.namings(1));
        DUE.is("only of the NAMED one, though another one FITS", 0, seen.only(0, 1));
        DUE.is("namings then, without 0 and its ONE", 1, seen.namings(2));
        DUE.is("only then", 2, seen.only(1, 2));
        DUE.is("fit is what it was", 1, seen.fit(1, 0));
        seen.missing(2, 0, 255, 0);
        seen.set(2, 100, 220, 0, 1);
        DUE.is("why, with none left", 4, seen.why(6));
        seen.part(0, 1);
        DUE.is("namings, 1 is not ONE with it now", 1, seen.namings(4));
        DUE.is("give of the other GRAVE", 1, seen.give(2));
        DUE.is("NAMED has its NAME alone", 1, seen.namings(7));
    }

    private static void givenThatBecomeOne() {
        LastSeen seen = Due.with("a", "b");
        seen.set(0, 100, 150, 0, 0);
        seen.set(1, 160, 220, 0, 0);
        seen.missing(0, 150, 0, 0);
        seen.missing(1, 160, 0, 0);
        DUE.is("give(0)", 0, seen.give(0));
        DUE.is("give(1)", 1, seen.give(1));
        DUE.is("namings of both", 1, seen.namings(3));
        seen.join(0, 1);
        DUE.is("namings of both, ONE now", 0, seen.namings(3));
        DUE.is("namings of one, whose NAME is ONE with another's", 1, seen.namings(1));
        DUE.is("namings of the other one", 1, seen.namings(2));
        DUE.is("only of one", 0, seen.only(0, 1));
        DUE.is("only of the other one", 1, seen.only(1, 2));
        DUE.is("only of one of both", -5, seen.only(0, 3));
        DUE.is("why of one", 0, seen.why(1));
        DUE.is("why of both", 3, seen.why(3));
        DUE.is("named(0) still", 0, seen.named(0));
        DUE.is("take(1)", 1, seen.take(1));
        DUE.is("namings of one then", 1, seen.namings(1));
        DUE.is("namings of both then", 0, seen.namings(3));
        DUE.is("why then", 2, seen.why(3));
    }

    private static void givenThatBecomeOneBarOthers() {
        LastSeen seen = Due.with("a", "b", "c", "d");
        seen.set(0, 100, 150, 0, 0);
        seen.set(0, 160, 220, 0, 0);
        seen.missing(0, 150, 0, 0);
        seen.missing(1, 160, 0, 0);
        DUE.is("give(0)", 0, seen.give(0));
        DUE.is("give(1)", 1, seen.give(1));
        seen.missing(2, 0, 0, 0);
        seen.missing(3, 120, 0, 0);
        seen.set(1, 100, 220, 0, 0);
        DUE.is("two for the third", 2, seen.namings(4));
        seen.join(1, 2);
        DUE.is("one for the third, as the other is ONE with a NAMED one", 1, seen.namings(4));
        DUE.is("all three by that", 1, seen.namings(7));
        seen.join(0, 1);
        DUE.is("the third beside one of two NAMED that are ONE", 1, seen.namings(5));
        DUE.is("and beside the other one", 1, seen.namings(6));
        DUE.is("none of all three", 0, seen.namings(7));
        DUE.is("why of all three", 3, seen.why(7));
        DUE.is("give of the third", 3, seen.give(2));
        seen.part(0, 1);
        DUE.is("all three, PARTED again", 1, seen.namings(7));
    }

    private static void takes() {
        LastSeen seen = Due.with("a", "b", "c", "d");
        for (int i = 0; i < 4; i++) {
            seen.set(i == 3 ? 1 : 0, 100 + i, 100 + i, 0, 0);
            seen.missing(i, 100 + i, 0, 0);
        }
        DUE.is("take of none NAMED", LastSeen.STATE, seen.take(0));
        int[] order = {2, 0, 3, 1};
        for (int set : order) DUE.is("give " + set, set, seen.give(set));
        DUE.is("take(0), and 1 that was later", 2, seen.take(0));
        DUE.is("named(0)", -5, seen.named(0));
        DUE.is("named(1)", -5, seen.named(1));
        DUE.is("named(2), earlier", 2, seen.named(2));
        DUE.is("named(3), of another GRAVE", 3, seen.named(3));
        DUE.is("take(1), UNNAMED already", LastSeen.STATE, seen.take(1));
        DUE.is("give(0) again", 0, seen.give(0));
        DUE.is("take(3)", 1, seen.take(3));
        DUE.is("take(2), with 0 that is later now", 2, seen.take(2));
        DUE.is("count(10)", 0, seen.count(10));
        DUE.is("take(4)", LastSeen.NONE, seen.take(4));
        DUE.is("take(-1)", LastSeen.NONE, seen.take(-1));
    }

    private static void counts() {
        LastSeen seen = Due.with("kara", "cara", "bob");
        seen.word(1, 0, 1, 0, 0, -1);
        seen.word(1, 0, 1, 0, 0, 0);
        seen.word(1, 0, 1, 0, 0, -1);
        Due.rule(seen, "r.0>1;else>0");
        seen.find(0);
        seen.find(2);
        seen.withdraw(0);
        seen.withdraw(2);
        seen.set(0, 100, 220, 0, 0);
        seen.set(1, 100, 110, 0, 0);
        seen.missing(0, 200, 0, 0);
        seen.give(0);
        seen.feed(0, 5);
        int[] want = {9, 3, 2, 3, 0, 1, 2, 1, 2, 1, 1, 5};
        for (int what = 0; what <= 11; what++) DUE.is("count(" + what + ")", want[what], seen.count(what));
        DUE.is("count(12)", LastSeen.NONE, seen.count(12));
        DUE.is("count(-1)", LastSeen.NONE, seen.count(-1));
    }
}
