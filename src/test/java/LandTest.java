/** Promises 1 to 4: a new object, ROADS, FAR, THE TAPE. */
public final class LandTest {
    private static final Due DUE = new Due("LandTest");

    public static void main(String[] args) {
        aNewObject();
        objectsApart();
        constants();
        roads();
        roadsRefused();
        roadsFull();
        farByBestWay();
        tape();
        tapeRefused();
        DUE.end();
    }

    private static void aNewObject() {
        LastSeen seen = new LastSeen();
        for (int what = 0; what <= 11; what++) DUE.is("count(" + what + ") of a new one", 0, seen.count(what));
        DUE.is("person(0, -1) of a new one", LastSeen.NONE, seen.person(0, -1));
        DUE.is("about(0, -1, 0) of a new one", LastSeen.NONE, seen.about(0, -1, 0));
        DUE.is("found(0, 0) of a new one", LastSeen.NONE, seen.found(0, 0));
        DUE.is("named(0) of a new one", LastSeen.NONE, seen.named(0));
        DUE.is("least(3) of a new one", 0, seen.least(3));
        DUE.is("bound(2) of a new one", 2, seen.bound(2));
        DUE.is("far(0, 1) of a new one", -5, seen.far(0, 1));
        DUE.is("namings(0) of a new one", 1, seen.namings(0));
        DUE.is("why(0) of a new one", 0, seen.why(0));
    }

    /** What one object heard, another one did not, be it made ahead of that or behind it. */
    private static void objectsApart() {
        LastSeen ahead = new LastSeen();
        LastSeen heard = Due.with("kara");
        Due.rule(heard, "else>1");
        Calls.answers(heard, "road 0 1 5; feed 97 1; word 1 0 1 0 0 -1; find 0; bone 0 0 0 0; bound 7; set 0 100 220 0 0");
        Calls.answers(heard, "missing 0 0 0 0; give 0");
        for (LastSeen seen : new LastSeen[] {ahead, new LastSeen()}) {
            for (int what = 0; what <= 11; what++) DUE.is("count(" + what + ") of another one", 0, seen.count(what));
            DUE.is("far(0, 1) of another one", -5, seen.far(0, 1));
            DUE.is("least(0) of another one", 0, seen.least(0));
            DUE.is("bound(3) of another one", 2, seen.bound(3));
            DUE.is("road(0, 1, 9) of another one", 1, seen.road(0, 1, 9));
            DUE.is("set of another one", 0, seen.set(0, 100, 220, 0, 0));
            DUE.is("named(0) of another one", -5, seen.named(0));
        }
        DUE.is("bound(2) of the one that heard", 7, heard.bound(2));
        DUE.is("named(0) of the one that heard", 0, heard.named(0));
    }

    private static void constants() {
        DUE.is("NONE", -1, LastSeen.NONE);
        DUE.is("BAD", -2, LastSeen.BAD);
        DUE.is("STATE", -3, LastSeen.STATE);
        DUE.is("FULL", -4, LastSeen.FULL);
    }

    private static void roads() {
        LastSeen seen = new LastSeen();
        DUE.is("far(4, 4) with no ROAD", 0, seen.far(4, 4));
        DUE.is("road(0, 9, 30)", 1, seen.road(0, 9, 30));
        DUE.is("far(0, 9)", 30, seen.far(0, 9));
        DUE.is("far(9, 0), the other way", 30, seen.far(9, 0));
        DUE.is("road(9, 0, 1), a shorter one", 2, seen.road(9, 0, 1));
        DUE.is("far(0, 9) by the shorter one", 1, seen.far(0, 9));
        DUE.is("road(0, 9, 5), a longer one", 3, seen.road(0, 9, 5));
        DUE.is("far(0, 9) still by the shorter one", 1, seen.far(0, 9));
        DUE.is("far(0, 8)", -5, seen.far(0, 8));
    }

    private static void roadsRefused() {
        LastSeen seen = new LastSeen();
        DUE.is("road(-1, 1, 5)", LastSeen.NONE, seen.road(-1, 1, 5));
        DUE.is("road(1, 10, 5)", LastSeen.NONE, seen.road(1, 10, 5));
        DUE.is("road(10, 10, 0), NONE ahead of BAD", LastSeen.NONE, seen.road(10, 10, 0));
        DUE.is("road(0, 1, 0)", LastSeen.BAD, seen.road(0, 1, 0));
        DUE.is("road(0, 1, 31)", LastSeen.BAD, seen.road(0, 1, 31));
        DUE.is("road(0, 1, least int)", LastSeen.BAD, seen.road(0, 1, Integer.MIN_VALUE));
        DUE.is("road(3, 3, 5)", LastSeen.BAD, seen.road(3, 3, 5));
        DUE.is("far(0, 1) after refusals", -5, seen.far(0, 1));
        DUE.is("far(-1, 0)", LastSeen.NONE, seen.far(-1, 0));
        DUE.is("far(0, 10)", LastSeen.NONE, seen.far(0, 10));
        DUE.is("far(greatest int, least int)", LastSeen.NONE, seen.far(Integer.MAX_VALUE, Integer.MIN_VALUE));
        DUE.is("road(0, 1, 1), the first", 1, seen.road(0, 1, 1));
        DUE.is("count(0), ROADS are no ENTRIES", 0, seen.count(0));
    }

    private static void roadsFull() {
        LastSeen seen = new LastSeen();
        for (int i = 1; i <= 40; i++) DUE.is("road " + i, i, seen.road(0, 1, 30));
        DUE.is("road 41", LastSeen.FULL, seen.road(0, 1, 3));
        DUE.is("road 41, BAD ahead of FULL", LastSeen.BAD, seen.road(0, 0, 3));
        DUE.is("road 41, NONE ahead of FULL", LastSeen.NONE, seen.road(0, 11, 3));
        DUE.is("far(0, 1) after FULL", 30, seen.far(0, 1));
    }

    private static void farByBestWay() {
        LastSeen seen = new LastSeen();
        for (int i = 0; i < 9; i++) seen.road(i, i + 1, 30);
        DUE.is("far(0, 9) by a chain", 270, seen.far(0, 9));
        seen.road(2, 7, 4);
        DUE.is("far(0, 9) by the shortcut", 124, seen.far(0, 9));
        DUE.is("far(3, 6), back by the shortcut", 64, seen.far(3, 6));
        DUE.is("far(4, 5), not by the shortcut", 30, seen.far(4, 5));
        LastSeen parts = new LastSeen();
        parts.road(0, 1, 2);
        parts.road(3, 4, 2);
        DUE.is("far(1, 3) before the parts meet", -5, parts.far(1, 3));
        parts.road(1, 3, 7);
        DUE.is("far(0, 4) after the parts meet", 11, parts.far(0, 4));
    }

    private static void tape() {
        LastSeen seen = new LastSeen();
        DUE.is("feed of a byte", 1, seen.feed('r', 1));
        DUE.is("feed, highest of the n first", 3, seen.feed(0x7788990000006F61L, 2));
        DUE.is("feed of two more", 5, seen.feed(0x7361, 2));
        DUE.is("name of roasa", 0, seen.name());
        DUE.is("key(0, -1), rs", 2, seen.key(0, -1));
        DUE.is("count(11), empty then", 0, seen.count(11));
        DUE.is("feed of eight bytes with the sign bit", 8, seen.feed(-1L, 8));
        DUE.is("name of bytes 255", LastSeen.BAD, seen.name());
        DUE.is("rule of bytes 255", -10, seen.rule());
        DUE.is("count(11) after the FAULT", 0, seen.count(11));
    }

    private static void tapeRefused() {
        LastSeen seen = new LastSeen();
        DUE.is("feed(97, 0)", LastSeen.BAD, seen.feed(97, 0));
        DUE.is("feed(97, 9)", LastSeen.BAD, seen.feed(97, 9));
        DUE.is("feed(97, -1)", LastSeen.BAD, seen.feed(97, -1));
        DUE.is("feed(97, greatest int)", LastSeen.BAD, seen.feed(97, Integer.MAX_VALUE));
        for (int i = 1; i <= 24; i++) seen.feed(0x6161616161616161L, 8);
        DUE.is("feed up to 199", 199, seen.feed(0, 7));
        DUE.is("feed over 200", LastSeen.FULL, seen.feed(0, 2));
        DUE.is("feed with a bad n, BAD ahead of FULL", LastSeen.BAD, seen.feed(0, 9));
        DUE.is("count(11) after FULL", 199, seen.count(11));
        DUE.is("feed up to 200", 200, seen.feed(0, 1));
        DUE.is("feed at 200", LastSeen.FULL, seen.feed(0, 1));
        DUE.is("name of 200 bytes", LastSeen.BAD, seen.name());
        DUE.is("count(11) after BAD", 200, seen.count(11));
        DUE.is("rule of 200 bytes a", -10, seen.rule());
    }
}
