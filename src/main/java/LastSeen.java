/** A commission that hears who was seen last where. All numbers are as the document's promises tell them. */
public final class LastSeen {
    public static final int NONE = -1, BAD = -2, STATE = -3, FULL = -4;

    /** The answer -5: never, none such. */
    private static final int NO = -5;
    private static final int MOST_ENTRIES = 200;
    private static final int MOST_FINDINGS = 30;
    private static final int LEANS_FROM = 10;

    private final Land land;
    private final Tape tape;
    private final Names names;
    private final Words words;
    private final Hearing hearing;
    private final Rules rules;
    private final Bones bones;
    private final Graves graves;
    private final int[] foundName;
    private final int[] foundEntries;
    private final int[] foundRule;
    private final int[] foundDigit;
    private int founds;
    private int entries;

    public LastSeen() {
        land = new Land();
        tape = new Tape();
        names = new Names();
        words = new Words();
        hearing = new Hearing(names, words, new Walk(land));
        rules = new Rules();
        bones = new Bones();
        graves = new Graves(names);
        foundName = new int[MOST_FINDINGS];
        foundEntries = new int[MOST_FINDINGS];
        foundRule = new int[MOST_FINDINGS];
        foundDigit = new int[MOST_FINDINGS];
    }

    // ---- land

    public int road(int a, int b, int length) {
        if (!Land.isPlace(a) || !Land.isPlace(b)) return NONE;
        if (length < 1 || length > 30 || a == b) return BAD;
        if (land.isFull()) return FULL;
        return land.lay(a, b, length);
    }

    public int far(int a, int b) {
        if (!Land.isPlace(a) || !Land.isPlace(b)) return NONE;
        int watches = land.distance(a, b);
        return watches >= Land.APART ? NO : watches;
    }

    // ---- names

    public int feed(long w, int n) {
        if (n < 1 || n > 8) return BAD;
        if (!tape.hasRoom(n)) return FULL;
        return tape.append(w, n);
    }

    public int name() {
        if (!Names.canRead(tape)) return BAD;
        if (names.size() >= Names.MOST || bookIsFull()) return FULL;
        int name = names.enter(tape, entries);
        entries++;
        tape.empty();
        return name;
    }

    public int key(int name, int i) {
        if (!isName(name)) return NO;
        int size = names.keySize(name);
        if (i == -1) return size;
        if (i < 0 || i >= size) return NO;
        return names.keyLetter(name, i);
    }

    public int join(int a, int b) {
        return decree(a, b, Names.LINKED);
    }

    public int part(int a, int b) {
        return decree(a, b, Names.PARTED);
    }

    public int link(int a, int b, int e) {
        int by = upTo(e);
        if (!isNameBy(a, by) || !isNameBy(b, by)) return NONE;
        if (a == b) return BAD;
        names.readBy(by);
        return bit(names.bond(a, b) == Names.LINKED);
    }

    public int person(int name, int e) {
        int by = upTo(e);
        if (!isNameBy(name, by)) return NONE;
        names.readBy(by);
        return names.leastOf(name);
    }

    public int tie(int a, int b, int what) {
        if (!isName(a) || !isName(b) || what < -1) return NONE;
        if (a == b) return BAD;
        names.readBy(entries);
        if (!names.areTied(a, b)) return STATE;
        int size = names.readTie(Math.min(a, b), Math.max(a, b));
        if (what == -1) return size;
        if (what >= size) return NONE;
        return names.tieName(what);
    }

    // ---- words

    public int word(int witness, int name, int places, int first, int last, int of) {
        if (witness < 0 || witness > 29 || !isName(name)) return NONE;
        if (of < -1 || of >= words.size()) return NONE;
        if (places < 1 || places >= 1 << Land.PLACES) return BAD;
        if (!isWatch(first) || !isWatch(last) || first > last) return BAD;
        if (words.size() >= Words.MOST || bookIsFull()) return FULL;
        int word = words.enter(witness, name, entries, of);
        words.placeAt(word, places, first, last);
        entries++;
        return word;
    }

    public int withdraw(int word) {
        if (!isWordBy(word, entries)) return NONE;
        if (words.isWithdrawn(word)) return STATE;
        if (bookIsFull()) return FULL;
        words.readBy(entries, entries);
        int before = words.standing();
        words.drop(word, entries);
        entries++;
        words.readBy(entries, entries);
        return before - words.standing();
    }

    public int about(int word, int e, int what) {
        int by = upTo(e);
        if (!isWordBy(word, by)) return NONE;
        switch (what) {
            case 0:
                words.readBy(by, by);
                return bit(words.stands(word));
            case 1:
                return words.rootOf(word);
            case 2:
                names.readBy(by);
                return names.leastOf(words.nameOf(word));
            default:
                return NONE;
        }
    }

    public int root(int name, int e, int i) {
        int by = upTo(e);
        if (!isNameBy(name, by) || i < -1) return NONE;
        hearing.open(name, by, by);
        if (i == -1) return hearing.rootCount();
        if (i >= hearing.rootCount()) return NONE;
        return hearing.rootAt(i);
    }

    public int eyes(int name, int e) {
        int by = upTo(e);
        if (!isNameBy(name, by)) return NONE;
        hearing.open(name, by, by);
        return hearing.witnesses();
    }

    public int can(int name, int e) {
        int by = upTo(e);
        if (!isNameBy(name, by)) return NONE;
        hearing.open(name, by, by);
        hearing.weigh();
        return bit(hearing.agrees());
    }

    public int quarrel(int name, int e, int i) {
        int by = upTo(e);
        if (!isNameBy(name, by) || i < -1) return NONE;
        hearing.open(name, by, by);
        hearing.weigh();
        if (hearing.agrees()) return STATE;
        int least = hearing.leastQuarrel();
        if (i == -1) return Integer.bitCount(least);
        int index = bitAt(least, i);
        if (index < 0) return NONE;
        return hearing.rootAt(index);
    }

    public int could(int name, int e, int place, int watch) {
        int by = upTo(e);
        if (!isNameBy(name, by) || !Land.isPlace(place)) return NONE;
        if (!isWatch(watch)) return BAD;
        hearing.open(name, by, by);
        return bit(hearing.agreesWith(place, watch));
    }

    public int last(int name, int e) {
        int by = upTo(e);
        if (!isNameBy(name, by)) return NONE;
        hearing.open(name, by, by);
        int latest = hearing.latestRoot();
        return latest < 0 ? NO : latest;
    }

    // ---- rules, findings

    public int rule() {
        if (rules.size() >= Rules.MOST || bookIsFull()) return FULL;
        int answer = rules.check(tape);
        if (answer > 0) {
            rules.enter(tape, answer, entries);
            entries++;
        }
        tape.empty();
        return answer;
    }

    public int finding(int name, int e) {
        int by = upTo(e);
        if (!isNameBy(name, by)) return NONE;
        int rule = rules.latestBy(by);
        if (rule < 0) return NO;
        return digitOf(rule, name, by, by);
    }

    public int find(int name) {
        if (!isName(name)) return NONE;
        int rule = rules.latestBy(entries);
        if (rule < 0) return STATE;
        if (founds >= MOST_FINDINGS) return FULL;
        foundName[founds] = name;
        foundEntries[founds] = entries;
        foundRule[founds] = rule;
        foundDigit[founds] = digitOf(rule, name, entries, entries);
        founds++;
        return founds - 1;
    }

    public int found(int finding, int what) {
        if (finding < 0 || finding >= founds) return NONE;
        switch (what) {
            case 0:
                return foundName[finding];
            case 1:
                return foundEntries[finding];
            case 2:
                return foundDigit[finding];
            case 3:
                return holding(finding, finding + 1);
            case 4:
                return openAsFound(finding).leanCount();
            default:
                return what < LEANS_FROM ? NONE : openAsFound(finding).leanAt(what - LEANS_FROM);
        }
    }

    // ---- graves

    public int bone(int grave, int pair, int side, int size) {
        if (!Graves.isGrave(grave)) return NONE;
        if (pair < 0 || pair >= Bones.PAIRS || side < 0 || side > 1 || size < 0 || size > 99) return BAD;
        if (bones.isFull(grave, pair, side)) return FULL;
        return bones.lay(grave, pair, side, size);
    }

    public int bound(int n) {
        if (n < 0 || n > 20) return BAD;
        return bones.changeBound(n);
    }

    public int least(int grave) {
        if (!Graves.isGrave(grave)) return NONE;
        return bones.leastPersons(grave);
    }

    public int set(int grave, int low, int high, int has, int hasNot) {
        if (!Graves.isGrave(grave)) return NONE;
        if (!Graves.isHeight(low) || !Graves.isHeight(high) || low > high) return BAD;
        if (!Graves.areMarks(has, hasNot)) return BAD;
        if (graves.sets() >= Graves.MOST_SETS) return FULL;
        return graves.addSet(grave, low, high, has, hasNot);
    }

    public int missing(int name, int height, int had, int hadNot) {
        if (!isName(name)) return NONE;
        if (height != 0 && !Graves.isHeight(height)) return BAD;
        if (!Graves.areMarks(had, hadNot)) return BAD;
        int index = graves.lostIndex(name);
        if (index < 0) {
            if (graves.lost() >= Graves.MOST_LOST) return FULL;
            index = graves.addLost(name);
        } else if (graves.isTaken(index)) {
            return STATE;
        }
        graves.describe(index, height, had, hadNot);
        return graves.lost();
    }

    public int fit(int set, int name) {
        int index = graves.lostIndex(name);
        if (!isSet(set) || index < 0) return NONE;
        return bit(graves.suits(set, index));
    }

    public int namings(int sets) {
        if (!graves.areSets(sets)) return BAD;
        graves.readChoices(entries);
        return graves.ways(sets);
    }

    public int only(int set, int sets) {
        if (!isSet(set)) return NONE;
        if (!graves.areSets(sets) || (sets >> set & 1) == 0) return BAD;
        graves.readChoices(entries);
        int index = graves.soleChoice(set, sets);
        return index < 0 ? NO : graves.lostName(index);
    }

    public int why(int sets) {
        if (!graves.areSets(sets)) return BAD;
        graves.readChoices(entries);
        return graves.shortage(sets, 0);
    }

    public int give(int set) {
        if (!isSet(set)) return NONE;
        if (graves.givenTo(set) >= 0) return STATE;
        graves.readChoices(entries);
        int index = graves.soleChoice(set, graves.setsBeside(set));
        if (index < 0) return STATE;
        graves.entitle(set, index);
        return graves.lostName(index);
    }

    public int take(int set) {
        if (!isSet(set)) return NONE;
        if (graves.givenTo(set) < 0) return STATE;
        return graves.strip(set);
    }

    public int named(int set) {
        if (!isSet(set)) return NONE;
        int index = graves.givenTo(set);
        return index < 0 ? NO : graves.lostName(index);
    }

    public int count(int what) {
        switch (what) {
            case 0: return entries;
            case 1: return names.size();
            case 2: return personsNow();
            case 3: return words.size();
            case 4: return standingNow();
            case 5: return rules.size();
            case 6: return founds;
            case 7: return holding(0, founds);
            case 8: return graves.sets();
            case 9: return graves.lost();
            case 10: return graves.givenSets();
            case 11: return tape.size();
            default: return NONE;
        }
    }

    // ---- what the calls share

    private static int bit(boolean so) {
        return so ? 1 : 0;
    }

    /** The place of the i-th bit that is set, -1 if there are fewer. */
    private static int bitAt(int bits, int i) {
        int seen = 0;
        for (int place = 0; place < 32; place++) {
            if ((bits >> place & 1) == 0) continue;
            if (seen == i) return place;
            seen++;
        }
        return -1;
    }

    private static boolean isWatch(int watch) {
        return watch >= 0 && watch <= 999;
    }

    private boolean bookIsFull() {
        return entries >= MOST_ENTRIES;
    }

    /** How many ENTRIES e tells of; -1, by which nothing was heard, if e is none. */
    private int upTo(int e) {
        if (e == -1) return entries;
        return e < 0 || e > entries ? -1 : e;
    }

    private boolean isName(int name) {
        return isNameBy(name, entries);
    }

    private boolean isNameBy(int name, int by) {
        return name >= 0 && name < names.size() && names.entryOf(name) < by;
    }

    private boolean isWordBy(int word, int by) {
        return word >= 0 && word < words.size() && words.entryOf(word) < by;
    }

    private boolean isSet(int set) {
        return set >= 0 && set < graves.sets();
    }

    private int decree(int a, int b, int bond) {
        if (!isName(a) || !isName(b)) return NONE;
        if (a == b) return BAD;
        if (bookIsFull()) return FULL;
        names.decree(a, b, bond, entries);
        entries++;
        return entries;
    }

    private Hearing openAsFound(int finding) {
        int by = foundEntries[finding];
        hearing.open(foundName[finding], by, by);
        return hearing;
    }

    private int digitOf(int rule, int name, int by, int withdrawnBy) {
        hearing.open(name, by, withdrawnBy);
        if (rules.asksWhetherCan(rule)) hearing.weigh();
        return rules.decide(rule, hearing);
    }

    private int personsNow() {
        names.readBy(entries);
        int persons = 0;
        for (int name = 0; name < names.size(); name++) {
            if (names.leastOf(name) == name) persons++;
        }
        return persons;
    }

    private int standingNow() {
        words.readBy(entries, entries);
        return words.standing();
    }

    /** How many FINDINGS of a row of them HOLD: have their digit without the WORDS that were withdrawn since. */
    private int holding(int from, int to) {
        int many = 0;
        for (int finding = from; finding < to; finding++) {
            int digit = digitOf(foundRule[finding], foundName[finding], foundEntries[finding], entries);
            if (digit == foundDigit[finding]) many++;
        }
        return many;
    }

    /** The PLACES and how FAR they are from one another by the ROADS that are there. */
    private static final class Land {
        static final int PLACES = 10;
        /** Above every FAR that there can be, and so small that two of it can be added. */
        static final int APART = 1000000;
        private static final int MOST_ROADS = 40;

        private final int[] watches = new int[PLACES * PLACES];
        private int roads;

        Land() {
            for (int a = 0; a < PLACES; a++) {
                for (int b = 0; b < PLACES; b++) watches[a * PLACES + b] = a == b ? 0 : APART;
            }
        }

        static boolean isPlace(int place) {
            return place >= 0 && place < PLACES;
        }

        boolean isFull() {
            return roads >= MOST_ROADS;
        }

        int distance(int a, int b) {
            return watches[a * PLACES + b];
        }

        /** A shortest way takes a new ROAD once at most, so each pair needs one look at either direction of it. */
        int lay(int a, int b, int length) {
            for (int p = 0; p < PLACES; p++) {
                for (int q = 0; q < PLACES; q++) {
                    int there = distance(p, a) + length + distance(b, q);
                    int back = distance(p, b) + length + distance(a, q);
                    int best = Math.min(distance(p, q), Math.min(there, back));
                    watches[p * PLACES + q] = best;
                }
            }
            roads++;
            return roads;
        }
    }

    /** THE TAPE: bytes that were fed and not yet read. */
    private static final class Tape {
        static final int MOST = 200;

        private final byte[] bytes = new byte[MOST];
        private int size;

        int size() {
            return size;
        }

        boolean hasRoom(int n) {
            return size + n <= MOST;
        }

        /** The byte at i; -1, which no letter or sign is, where there is none. */
        int at(int i) {
            return i < 0 || i >= size ? -1 : bytes[i] & 255;
        }

        int append(long w, int n) {
            for (int i = n - 1; i >= 0; i--) {
                bytes[size] = (byte) (w >> 8 * i);
                size++;
            }
            return size;
        }

        void empty() {
            size = 0;
        }
    }

    /** The NAMES, their KEYS, and the JOININGS and PARTINGS of the BOOK. */
    private static final class Names {
        static final int MOST = 20;
        /** What is between two NAMES: LINKED, PARTED by a PARTING, or 0, neither. */
        static final int LINKED = 1, PARTED = 2;
        private static final int MOST_LETTERS = 12;

        private final int[] letters = new int[MOST * MOST_LETTERS];
        private final int[] keySizes = new int[MOST];
        private final int[] enteredAt = new int[MOST];
        private int size;

        private final int[] decreeA = new int[MOST_ENTRIES];
        private final int[] decreeB = new int[MOST_ENTRIES];
        private final int[] decreeBond = new int[MOST_ENTRIES];
        private final int[] decreedAt = new int[MOST_ENTRIES];
        private int decrees;

        // As of the ENTRIES that were read last.
        private final int[] bonds = new int[MOST * MOST];
        private final int[] persons = new int[MOST];
        private int sizeBy;

        private final int[] row = new int[MOST];
        private final int[] steps = new int[MOST];
        private final int[] spelled = new int[MOST_LETTERS];

        int size() {
            return size;
        }

        int entryOf(int name) {
            return enteredAt[name];
        }

        int keySize(int name) {
            return keySizes[name];
        }

        int keyLetter(int name, int i) {
            return letters[name * MOST_LETTERS + i] - 'a';
        }

        static boolean canRead(Tape tape) {
            if (tape.size() < 1 || tape.size() > MOST_LETTERS) return false;
            for (int i = 0; i < tape.size(); i++) {
                if (tape.at(i) < 'a' || tape.at(i) > 'z') return false;
            }
            return true;
        }

        int enter(Tape tape, int entry) {
            int n = Math.min(tape.size(), MOST_LETTERS);
            for (int i = 0; i < n; i++) spelled[i] = alike(tape.at(i));
            n = dropTwins(dropBreaths(blendPh(n)));
            n = dropVowels(n);
            for (int i = 0; i < n; i++) letters[size * MOST_LETTERS + i] = spelled[i];
            keySizes[size] = n;
            enteredAt[size] = entry;
            size++;
            return size - 1;
        }

        private static int alike(int letter) {
            switch (letter) {
                case 'q':
                case 'k':
                    return 'c';
                case 'z':
                    return 's';
                case 'y':
                case 'j':
                    return 'i';
                case 'w':
                    return 'v';
                default:
                    return letter;
            }
        }

        private int blendPh(int n) {
            int kept = 0;
            for (int i = 0; i < n; i++) {
                boolean blends = spelled[i] == 'h' && i > 0 && spelled[kept - 1] == 'p';
                if (blends) {
                    spelled[kept - 1] = 'f';
                } else {
                    spelled[kept] = spelled[i];
                    kept++;
                }
            }
            return kept;
        }

        private int dropBreaths(int n) {
            int kept = 0;
            for (int i = 0; i < n; i++) {
                if (i > 0 && spelled[i] == 'h') continue;
                spelled[kept] = spelled[i];
                kept++;
            }
            return kept;
        }

        private int dropTwins(int n) {
            int kept = 0;
            for (int i = 0; i < n; i++) {
                if (kept > 0 && spelled[kept - 1] == spelled[i]) continue;
                spelled[kept] = spelled[i];
                kept++;
            }
            return kept;
        }

        private int dropVowels(int n) {
            int kept = 0;
            for (int i = 0; i < n; i++) {
                if (i > 0 && isVowel(spelled[i])) continue;
                spelled[kept] = spelled[i];
                kept++;
            }
            return kept;
        }

        private static boolean isVowel(int letter) {
            return letter == 'a' || letter == 'e' || letter == 'i' || letter == 'o' || letter == 'u';
        }

        void decree(int a, int b, int bond, int entry) {
            decreeA[decrees] = a;
            decreeB[decrees] = b;
            decreeBond[decrees] = bond;
            decreedAt[decrees] = entry;
            decrees++;
        }

        /** Sets LINKS and PERSONS as they are by so many ENTRIES. */
        void readBy(int by) {
            sizeBy = 0;
            while (sizeBy < size && enteredAt[sizeBy] < by) sizeBy++;
            readKeys();
            for (int i = 0; i < decrees; i++) {
                if (decreedAt[i] < by) tieTogether(decreeA[i], decreeB[i], decreeBond[i]);
            }
            readPersons();
        }

        private void readKeys() {
            for (int a = 0; a < sizeBy; a++) {
                for (int b = a + 1; b < sizeBy; b++) tieTogether(a, b, sameKey(a, b) ? LINKED : 0);
            }
        }

        private void tieTogether(int a, int b, int bond) {
            bonds[a * MOST + b] = bond;
            bonds[b * MOST + a] = bond;
        }

        private boolean sameKey(int a, int b) {
            if (keySizes[a] != keySizes[b]) return false;
            for (int i = 0; i < keySizes[a]; i++) {
                if (letters[a * MOST_LETTERS + i] != letters[b * MOST_LETTERS + i]) return false;
            }
            return true;
        }

        private void readPersons() {
            for (int name = 0; name < sizeBy; name++) persons[name] = -1;
            for (int name = 0; name < sizeBy; name++) {
                if (persons[name] < 0) spreadFrom(name);
            }
        }

        /** The NAMES come in order, so the first that a PERSON is met by is its least. */
        private void spreadFrom(int least) {
            int reached = 1;
            row[0] = least;
            persons[least] = least;
            for (int i = 0; i < reached && i < MOST; i++) {
                for (int other = 0; other < sizeBy; other++) {
                    if (persons[other] >= 0 || bonds[row[i] * MOST + other] != LINKED) continue;
                    persons[other] = least;
                    row[reached] = other;
                    reached++;
                }
            }
        }

        int bond(int a, int b) {
            return bonds[a * MOST + b];
        }

        int leastOf(int name) {
            return persons[name];
        }

        int namesOf(int person) {
            int many = 0;
            for (int name = 0; name < sizeBy; name++) {
                if (persons[name] == person) many++;
            }
            return many;
        }

        boolean areTied(int a, int b) {
            return bond(a, b) == PARTED && persons[a] == persons[b];
        }

        /** Steps are told from the end, so that from the start on the least NAME that comes nearer can be taken. */
        int readTie(int from, int to) {
            countStepsTo(to);
            int many = Math.min(steps[from] + 1, MOST);
            int here = from;
            row[0] = from;
            for (int i = 1; i < many; i++) {
                here = nearerThan(here);
                row[i] = here;
            }
            return many;
        }

        int tieName(int i) {
            return row[i];
        }

        private void countStepsTo(int end) {
            for (int name = 0; name < sizeBy; name++) steps[name] = MOST;
            int reached = 1;
            row[0] = end;
            steps[end] = 0;
            for (int i = 0; i < reached && i < MOST; i++) {
                for (int other = 0; other < sizeBy; other++) {
                    if (steps[other] < MOST || bond(row[i], other) != LINKED) continue;
                    steps[other] = steps[row[i]] + 1;
                    row[reached] = other;
                    reached++;
                }
            }
        }

        private int nearerThan(int name) {
            for (int other = 0; other < sizeBy; other++) {
                if (bond(name, other) == LINKED && steps[other] < steps[name]) return other;
            }
            return name;
        }
    }

    /** The WORDS and which of them stand. */
    private static final class Words {
        static final int MOST = 40;
        private static final int NEVER = MOST_ENTRIES + 1;

        private final int[] witness = new int[MOST];
        private final int[] names = new int[MOST];
        private final int[] places = new int[MOST];
        private final int[] first = new int[MOST];
        private final int[] last = new int[MOST];
        private final int[] heardOf = new int[MOST];
        private final int[] roots = new int[MOST];
        private final int[] enteredAt = new int[MOST];
        private final int[] droppedAt = new int[MOST];
        private int size;

        // As of the ENTRIES that were read last.
        private final boolean[] standing = new boolean[MOST];

        int size() {
            return size;
        }

        int enter(int who, int name, int entry, int of) {
            witness[size] = who;
            names[size] = name;
            enteredAt[size] = entry;
            droppedAt[size] = NEVER;
            heardOf[size] = of;
            roots[size] = of < 0 ? size : roots[of];
            size++;
            return size - 1;
        }

        void placeAt(int word, int bits, int from, int to) {
            places[word] = bits;
            first[word] = from;
            last[word] = to;
        }

        void drop(int word, int entry) {
            droppedAt[word] = entry;
        }

        boolean isWithdrawn(int word) {
            return droppedAt[word] != NEVER;
        }

        int entryOf(int word) {
            return enteredAt[word];
        }

        int nameOf(int word) {
            return names[word];
        }

        int rootOf(int word) {
            return roots[word];
        }

        int witnessOf(int word) {
            return witness[word];
        }

        int placesOf(int word) {
            return places[word];
        }

        int firstOf(int word) {
            return first[word];
        }

        int lastOf(int word) {
            return last[word];
        }

        boolean isHeard(int word) {
            return heardOf[word] >= 0;
        }

        /** Sets which WORDS stand: of those heard by so many ENTRIES, less what was withdrawn by so many. */
        void readBy(int heardBy, int withdrawnBy) {
            for (int word = 0; word < size; word++) {
                boolean itself = enteredAt[word] < heardBy && droppedAt[word] >= withdrawnBy;
                standing[word] = itself && (heardOf[word] < 0 || standing[heardOf[word]]);
            }
        }

        boolean stands(int word) {
            return standing[word];
        }

        int standing() {
            int many = 0;
            for (int word = 0; word < size; word++) {
                if (standing[word]) many++;
            }
            return many;
        }
    }

    /** Where one could have been: up to nine stays, each at one of its PLACES, at one of its WATCHES. */
    private static final class Walk {
        static final int MOST = 9;
        private static final int TOO_LATE = Land.APART;

        private final Land land;
        private final int[] places = new int[MOST];
        private final int[] first = new int[MOST];
        private final int[] last = new int[MOST];
        private int size;
        /** Of each set of stays and each PLACE: the earliest WATCH to end them there. */
        private final int[] soonest = new int[(1 << MOST) * Land.PLACES];
        private final int[] reach = new int[Land.PLACES];

        Walk(Land where) {
            land = where;
        }

        void empty() {
            size = 0;
        }

        void add(int bits, int from, int to) {
            places[size] = bits;
            first[size] = from;
            last[size] = to;
            size++;
        }

        int all() {
            return (1 << size) - 1;
        }

        /**
         * To be early is never worse, and FAR keeps the triangle's law, so it is enough to look at each stay
         * and the one before it.
         */
        void go() {
            for (int i = 0; i < (1 << size) * Land.PLACES; i++) soonest[i] = TOO_LATE;
            for (int stays = 0; stays < all(); stays++) {
                if (!isWalkable(stays)) continue;
                readReach(stays);
                for (int next = 0; next < size; next++) {
                    if ((stays >> next & 1) == 0) stayAt(next, (stays | 1 << next) * Land.PLACES);
                }
            }
        }

        boolean isWalkable(int stays) {
            if (stays == 0) return true;
            for (int place = 0; place < Land.PLACES; place++) {
                if (soonest[stays * Land.PLACES + place] < TOO_LATE) return true;
            }
            return false;
        }

        private void readReach(int stays) {
            for (int to = 0; to < Land.PLACES; to++) reach[to] = stays == 0 ? 0 : TOO_LATE;
            if (stays == 0) return;
            for (int from = 0; from < Land.PLACES; from++) {
                int left = soonest[stays * Land.PLACES + from];
                if (left >= TOO_LATE) continue;
                for (int to = 0; to < Land.PLACES; to++) {
                    reach[to] = Math.min(reach[to], left + land.distance(from, to));
                }
            }
        }

        private void stayAt(int next, int base) {
            for (int place = 0; place < Land.PLACES; place++) {
                if ((places[next] >> place & 1) == 0) continue;
                int watch = Math.max(first[next], reach[place]);
                if (watch <= last[next] && watch < soonest[base + place]) soonest[base + place] = watch;
            }
        }

        /** The fewest stays that can't all be, the least set of several; 0 if all can. */
        int leastQuarrel() {
            int least = 0;
            for (int stays = 1; stays <= all(); stays++) {
                boolean fewer = least == 0 || Integer.bitCount(stays) < Integer.bitCount(least);
                if (fewer && !isWalkable(stays)) least = stays;
            }
            return least;
        }
    }

    /** What the BOOK tells of one PERSON by so many ENTRIES. */
    private static final class Hearing {
        private static final int FIRST_ROOTS = 8;

        private final Names names;
        private final Words words;
        private final Walk walk;
        private final boolean[] isRoot = new boolean[Words.MOST];
        private final boolean[] isLeanedOn = new boolean[Words.MOST];
        private final int[] roots = new int[Words.MOST];
        private int rootCount;
        private int hearsay;
        private int witnessCount;
        private int nameCount;
        private int latest;
        private int latestWatch;
        private int latestPlaces;
        private int person;
        private boolean agreement;

        Hearing(Names ofNames, Words ofWords, Walk ofStays) {
            names = ofNames;
            words = ofWords;
            walk = ofStays;
        }

        /** Takes the PERSON of a NAME by so many ENTRIES, without the WORDS that were withdrawn by so many. */
        void open(int name, int by, int withdrawnBy) {
            names.readBy(by);
            words.readBy(by, withdrawnBy);
            person = names.leastOf(name);
            nameCount = names.namesOf(person);
            readWords();
            readRoots();
            readLatest();
        }

        private void readWords() {
            hearsay = 0;
            for (int word = 0; word < words.size(); word++) {
                isRoot[word] = false;
                isLeanedOn[word] = false;
                if (!words.stands(word) || names.leastOf(words.nameOf(word)) != person) continue;
                int root = words.rootOf(word);
                isRoot[root] = true;
                isLeanedOn[root] = true;
                isLeanedOn[word] = true;
                if (words.isHeard(word)) hearsay++;
            }
        }

        private void readRoots() {
            rootCount = 0;
            int seenBy = 0;
            for (int word = 0; word < words.size(); word++) {
                if (!isRoot[word]) continue;
                roots[rootCount] = word;
                rootCount++;
                seenBy |= 1 << words.witnessOf(word);
            }
            witnessCount = Integer.bitCount(seenBy);
        }

        private void readLatest() {
            latest = -1;
            latestWatch = 0;
            latestPlaces = 0;
            for (int i = 0; i < rootCount; i++) {
                int watch = words.lastOf(roots[i]);
                if (latest >= 0 && watch <= latestWatch) continue;
                latest = roots[i];
                latestWatch = watch;
                latestPlaces = Integer.bitCount(words.placesOf(latest));
            }
        }

        int rootCount() {
            return rootCount;
        }

        int rootAt(int i) {
            return roots[i];
        }

        int witnesses() {
            return witnessCount;
        }

        /** LAST; -1 if there are no ROOTS. */
        int latestRoot() {
            return latest;
        }

        int leanCount() {
            int many = 0;
            for (int word = 0; word < words.size(); word++) {
                if (isLeanedOn[word]) many++;
            }
            return many;
        }

        /** The i-th WORD that is leaned on; NONE if there are fewer. */
        int leanAt(int i) {
            int seen = 0;
            for (int word = 0; word < words.size(); word++) {
                if (!isLeanedOn[word]) continue;
                if (seen == i) return word;
                seen++;
            }
            return NONE;
        }

        private void loadWalk() {
            walk.empty();
            for (int i = 0; i < rootCount && i < FIRST_ROOTS; i++) {
                int root = roots[i];
                walk.add(words.placesOf(root), words.firstOf(root), words.lastOf(root));
            }
        }

        /** Sets whether the first ROOTS CAN BE; this is dear, so it is done where it is asked for alone. */
        void weigh() {
            loadWalk();
            walk.go();
            agreement = walk.isWalkable(walk.all());
        }

        boolean agrees() {
            return agreement;
        }

        boolean agreesWith(int place, int watch) {
            loadWalk();
            walk.add(1 << place, watch, watch);
            walk.go();
            return walk.isWalkable(walk.all());
        }

        /** The LEAST QUARREL of the ROOTS that were weighed, as bits. */
        int leastQuarrel() {
            return walk.leastQuarrel();
        }

        /** What a LETTER of a RULE says of the PERSON; c says what was weighed. */
        int measure(int letter) {
            switch (letter) {
                case 'r': return rootCount;
                case 'e': return witnessCount;
                case 'h': return hearsay;
                case 'c': return agreement ? 1 : 0;
                case 'n': return nameCount;
                case 'l': return latestWatch;
                case 'k': return latestPlaces;
                default: return 0;
            }
        }
    }

    /** The RULES: texts that were found without FAULT, and what they decide. */
    private static final class Rules {
        static final int MOST = 20;
        private static final int MOST_CLAUSES = 8;
        private static final int STUCK = -1, CLAUSE = 0, FACT = 1, SIGN = 2, SIGN_OR_ELSE = 3, NUMBER = 4, DIGITS = 5,
            CLOSED = 6, DIGIT = 7, SEMICOLON = 8, ELSE_L = 9, ELSE_S = 10, ELSE_E = 11, ELSE_THEN = 12,
            ELSE_DIGIT = 13, END = 14;

        private final byte[] texts = new byte[MOST * Tape.MOST];
        private final int[] sizes = new int[MOST];
        private final int[] clauseCounts = new int[MOST];
        private final int[] enteredAt = new int[MOST];
        private int size;

        // How the reading of a text stands.
        private int depth;
        private int clauses;
        private int digits;
        private boolean startsWithZero;
        private int cursor;

        // Of each group that is open: whether one of its rows was so, this row is so far, and what is before it turns it.
        private final boolean[] anyRow = new boolean[Tape.MOST + 1];
        private final boolean[] thisRow = new boolean[Tape.MOST + 1];
        private final boolean[] turned = new boolean[Tape.MOST + 1];

        int size() {
            return size;
        }

        /** How many CLAUSES, else with them; -10 less the FAULT. */
        int check(Tape tape) {
            int state = CLAUSE;
            depth = 0;
            clauses = 0;
            for (int i = 0; i < tape.size(); i++) {
                state = after(state, tape.at(i));
                if (state == STUCK) return -10 - i;
            }
            return state == END ? clauses + 1 : -10 - tape.size();
        }

        void enter(Tape tape, int clauseCount, int entry) {
            for (int i = 0; i < tape.size(); i++) texts[size * Tape.MOST + i] = (byte) tape.at(i);
            sizes[size] = tape.size();
            clauseCounts[size] = clauseCount;
            enteredAt[size] = entry;
            size++;
        }

        /** The latest RULE by so many ENTRIES; -1 if there is none. */
        int latestBy(int by) {
            int latest = -1;
            for (int rule = 0; rule < size; rule++) {
                if (enteredAt[rule] < by) latest = rule;
            }
            return latest;
        }

        private int after(int state, int c) {
            switch (state) {
                case CLAUSE: return afterStart(c);
                case FACT: return afterOpening(c);
                case SIGN: return isSign(c) ? NUMBER : STUCK;
                case SIGN_OR_ELSE: return c == 'l' ? ELSE_S : isSign(c) ? NUMBER : STUCK;
                case NUMBER: return afterFirstDigit(c);
                case DIGITS: return isDigit(c) ? afterDigit() : afterFact(c);
                case CLOSED: return afterFact(c);
                case DIGIT: return isDigit(c) ? SEMICOLON : STUCK;
                case SEMICOLON: return afterClause(c);
                case ELSE_L: return c == 'l' ? ELSE_S : STUCK;
                case ELSE_S: return c == 's' ? ELSE_E : STUCK;
                case ELSE_E: return c == 'e' ? ELSE_THEN : STUCK;
                case ELSE_THEN: return c == '>' ? ELSE_DIGIT : STUCK;
                case ELSE_DIGIT: return isDigit(c) ? END : STUCK;
                default: return STUCK;
            }
        }

        /** An e is the LETTER or begins else; else alone can come behind the last CLAUSE. */
        private int afterStart(int c) {
            boolean more = clauses < MOST_CLAUSES;
            if (c == 'e') return more ? SIGN_OR_ELSE : ELSE_L;
            return more ? afterOpening(c) : STUCK;
        }

        private int afterOpening(int c) {
            if (c == '!') return FACT;
            if (c == '(') {
                depth++;
                return FACT;
            }
            return isLetter(c) ? SIGN : STUCK;
        }

        private int afterFirstDigit(int c) {
            if (!isDigit(c)) return STUCK;
            digits = 1;
            startsWithZero = c == '0';
            return DIGITS;
        }

        private int afterDigit() {
            if (digits >= 3 || startsWithZero) return STUCK;
            digits++;
            return DIGITS;
        }

        private int afterFact(int c) {
            if (c == '&' || c == '|') return FACT;
            if (c == ')' && depth > 0) {
                depth--;
                return CLOSED;
            }
            return c == '>' && depth == 0 ? DIGIT : STUCK;
        }

        private int afterClause(int c) {
            if (c != ';') return STUCK;
            clauses++;
            return CLAUSE;
        }

        private static boolean isLetter(int c) {
            return c == 'r' || c == 'e' || c == 'h' || c == 'c' || c == 'n' || c == 'l' || c == 'k';
        }

        private static boolean isSign(int c) {
            return c == '<' || c == '=' || c == '.';
        }

        private static boolean isDigit(int c) {
            return c >= '0' && c <= '9';
        }

        /** Whether the LETTER c is in a RULE; no other part of one has it. */
        boolean asksWhetherCan(int rule) {
            for (int i = 0; i < sizes[rule]; i++) {
                if (textAt(rule, i) == 'c') return true;
            }
            return false;
        }

        private int textAt(int rule, int i) {
            return i < 0 || i >= sizes[rule] ? -1 : texts[rule * Tape.MOST + i] & 255;
        }

        /** The digit of the first CLAUSE that is so; the one of else stands at the text's end. */
        int decide(int rule, Hearing hearing) {
            cursor = 0;
            for (int clause = 1; clause < clauseCounts[rule]; clause++) {
                boolean so = isSo(rule, hearing);
                int digit = textAt(rule, cursor + 1) - '0';
                if (so) return digit;
                cursor += 3;
            }
            return textAt(rule, sizes[rule] - 1) - '0';
        }

        /** Reads a WHEN from the cursor on and leaves the cursor at the > behind it. */
        private boolean isSo(int rule, Hearing hearing) {
            boolean turn = false;
            int open = 0;
            openGroup(0, false);
            for (int step = 0; step < Tape.MOST; step++) {
                int c = textAt(rule, cursor);
                if (c < 0 || c == '>') break;
                if (isLetter(c)) {
                    joinRow(open, factIsSo(rule, hearing) != turn);
                    turn = false;
                    continue;
                }
                cursor++;
                if (c == '!') {
                    turn = !turn;
                } else if (c == '(') {
                    open++;
                    openGroup(open, turn);
                    turn = false;
                } else if (c == ')' && open > 0) {
                    open--;
                    joinRow(open, groupIsSo(open + 1));
                } else if (c == '|') {
                    closeRow(open);
                }
            }
            return groupIsSo(0);
        }

        private void joinRow(int group, boolean so) {
            if (!so) thisRow[group] = false;
        }

        private void closeRow(int group) {
            if (thisRow[group]) anyRow[group] = true;
            thisRow[group] = true;
        }

        private void openGroup(int group, boolean turn) {
            anyRow[group] = false;
            thisRow[group] = true;
            turned[group] = turn;
        }

        private boolean groupIsSo(int group) {
            return (anyRow[group] || thisRow[group]) != turned[group];
        }

        /** Reads a LETTER, a sign, a number from the cursor on and leaves the cursor behind them. */
        private boolean factIsSo(int rule, Hearing hearing) {
            int value = hearing.measure(textAt(rule, cursor));
            int sign = textAt(rule, cursor + 1);
            cursor += 2;
            int told = 0;
            for (int i = 0; i < 3 && isDigit(textAt(rule, cursor)); i++) {
                told = told * 10 + textAt(rule, cursor) - '0';
                cursor++;
            }
            if (sign == '<') return value < told;
            return sign == '=' ? value == told : value > told;
        }
    }

    /** The BONES of all GRAVES, those of a PAIR and side in order of SIZE. */
    private static final class Bones {
        static final int PAIRS = 4;
        private static final int MOST = 12;

        private final int[] sizes = new int[Graves.MOST * PAIRS * 2 * MOST];
        private final int[] counts = new int[Graves.MOST * PAIRS * 2];
        private int most = 2;

        private static int heapOf(int grave, int pair, int side) {
            return (grave * PAIRS + pair) * 2 + side;
        }

        boolean isFull(int grave, int pair, int side) {
            return counts[heapOf(grave, pair, side)] >= MOST;
        }

        int lay(int grave, int pair, int side, int boneSize) {
            int heap = heapOf(grave, pair, side);
            int place = counts[heap];
            for (; place > 0 && sizes[heap * MOST + place - 1] > boneSize; place--) {
                sizes[heap * MOST + place] = sizes[heap * MOST + place - 1];
            }
            sizes[heap * MOST + place] = boneSize;
            counts[heap]++;
            return counts[heap];
        }

        int changeBound(int n) {
            int was = most;
            most = n;
            return was;
        }

        int leastPersons(int grave) {
            int persons = 0;
            for (int pair = 0; pair < PAIRS; pair++) {
                int left = heapOf(grave, pair, 0);
                int right = heapOf(grave, pair, 1);
                persons = Math.max(persons, counts[left] + counts[right] - couples(left, right));
            }
            return persons;
        }

        /** In order of SIZE, a BONE too small for the least one of the other side finds none there. */
        private int couples(int left, int right) {
            int i = 0;
            int j = 0;
            int made = 0;
            while (i < counts[left] && j < counts[right]) {
                int more = sizes[left * MOST + i] - sizes[right * MOST + j];
                if (more > most) {
                    j++;
                } else if (more < -most) {
                    i++;
                } else {
                    i++;
                    j++;
                    made++;
                }
            }
            return made;
        }
    }

    /** The SETS, the MISSING, and who can be named or was. */
    private static final class Graves {
        static final int MOST = 4;
        static final int MOST_SETS = 8;
        static final int MOST_LOST = 10;
        private static final int AS_MANY = 1000000;

        private final Names names;
        private final int[] grave = new int[MOST_SETS];
        private final int[] low = new int[MOST_SETS];
        private final int[] high = new int[MOST_SETS];
        private final int[] has = new int[MOST_SETS];
        private final int[] hasNot = new int[MOST_SETS];
        private final int[] given = new int[MOST_SETS];
        private final int[] givenTurn = new int[MOST_SETS];
        private int setCount;
        private int turns;

        private final int[] lostNames = new int[MOST_LOST];
        private final int[] height = new int[MOST_LOST];
        private final int[] had = new int[MOST_LOST];
        private final int[] hadNot = new int[MOST_LOST];
        private int lostCount;

        /** Of each MISSING the first one that it is ONE with. */
        private final int[] same = new int[MOST_LOST];
        /** Of each SET the MISSING that it can get, as bits. */
        private final int[] choices = new int[MOST_SETS];
        private final int[] perSubset = new int[1 << MOST_SETS];

        Graves(Names ofNames) {
            names = ofNames;
        }

        static boolean isGrave(int number) {
            return number >= 0 && number < MOST;
        }

        static boolean isHeight(int number) {
            return number >= 100 && number <= 220;
        }

        static boolean areMarks(int yes, int no) {
            return yes >= 0 && yes <= 255 && no >= 0 && no <= 255 && (yes & no) == 0;
        }

        int sets() {
            return setCount;
        }

        int lost() {
            return lostCount;
        }

        boolean areSets(int bits) {
            return bits >= 0 && bits >> setCount == 0;
        }

        int addSet(int where, int from, int to, int yes, int no) {
            grave[setCount] = where;
            low[setCount] = from;
            high[setCount] = to;
            has[setCount] = yes;
            hasNot[setCount] = no;
            given[setCount] = -1;
            setCount++;
            return setCount - 1;
        }

        /** Where a NAME is among the MISSING; -1 if it is not. */
        int lostIndex(int name) {
            for (int i = 0; i < lostCount; i++) {
                if (lostNames[i] == name) return i;
            }
            return -1;
        }

        int lostName(int index) {
            return lostNames[index];
        }

        int addLost(int name) {
            lostNames[lostCount] = name;
            lostCount++;
            return lostCount - 1;
        }

        void describe(int index, int tall, int yes, int no) {
            height[index] = tall;
            had[index] = yes;
            hadNot[index] = no;
        }

        boolean isTaken(int index) {
            for (int set = 0; set < setCount; set++) {
                if (given[set] == index) return true;
            }
            return false;
        }

        boolean suits(int set, int index) {
            int tall = height[index];
            if (tall != 0 && (tall < low[set] || tall > high[set])) return false;
            return (has[set] & hadNot[index]) == 0 && (hasNot[set] & had[index]) == 0;
        }

        /** Sets who is ONE with whom by so many ENTRIES, and what each SET can get. */
        void readChoices(int by) {
            names.readBy(by);
            for (int i = 0; i < lostCount; i++) same[i] = firstOneWith(i);
            for (int set = 0; set < setCount; set++) {
                choices[set] = 0;
                for (int i = 0; i < lostCount; i++) {
                    if (canGet(set, i)) choices[set] |= 1 << i;
                }
            }
        }

        private int firstOneWith(int index) {
            for (int i = 0; i < index; i++) {
                if (names.leastOf(lostNames[i]) == names.leastOf(lostNames[index])) return i;
            }
            return index;
        }

        /** A NAMED SET has its NAME for good, so what another one is NAMED bars those alone that are not NAMED. */
        private boolean canGet(int set, int index) {
            if (given[set] >= 0) return given[set] == index;
            return suits(set, index) && !isBarred(index);
        }

        /** Whether a SET is NAMED this MISSING, or one that is ONE with it. */
        private boolean isBarred(int index) {
            for (int set = 0; set < setCount; set++) {
                if (given[set] >= 0 && same[given[set]] == same[index]) return true;
            }
            return false;
        }

        /** Takes one PERSON of the MISSING after the other, so that none is given twice. */
        int ways(int sets) {
            int[] row = perSubset;
            for (int subset = 0; subset < 1 << setCount; subset++) row[subset] = 0;
            row[0] = 1;
            for (int who = 0; who < lostCount; who++) {
                if (same[who] != who) continue;
                for (int subset = (1 << setCount) - 1; subset > 0; subset--) {
                    if ((subset & ~sets) == 0) row[subset] += waysWith(subset, who);
                }
            }
            return Math.min(row[sets], AS_MANY);
        }

        /** How many ways give one of a subset of SETS to this PERSON and all others of it to PERSONS before. */
        private int waysWith(int subset, int who) {
            int more = 0;
            for (int set = 0; set < setCount; set++) {
                if ((subset >> set & 1) == 0) continue;
                int before = perSubset[subset & ~(1 << set)];
                if (before > 0) more += before * spellings(set, who);
            }
            return more;
        }

        /** How many MISSING NAMES of a PERSON a SET can get. */
        private int spellings(int set, int who) {
            int many = 0;
            for (int i = who; i < lostCount; i++) {
                if (same[i] == who && (choices[set] >> i & 1) == 1) many++;
            }
            return many;
        }

        /**
         * The fewest SETS that have no NAMING, the least set of several; 0 if there is one. Such a least set has
         * fewer PERSONS to get than it has SETS (by the marriage theorem). The barred PERSON (a bit) is not had.
         */
        int shortage(int sets, int barred) {
            readHeirs();
            int least = 0;
            for (int subset = 1; subset < 1 << setCount; subset++) {
                if ((subset & ~sets) != 0) continue;
                int many = Integer.bitCount(subset);
                boolean lacks = Integer.bitCount(perSubset[subset] & ~barred) < many;
                if (lacks && (least == 0 || many < Integer.bitCount(least))) least = subset;
            }
            return least;
        }

        /** Sets, of each subset of the SETS, the PERSONS that one of it at least can get, as bits. */
        private void readHeirs() {
            perSubset[0] = 0;
            for (int set = 0; set < setCount; set++) {
                int persons = personsFor(set);
                for (int others = 0; others < 1 << set; others++) {
                    perSubset[1 << set | others] = perSubset[others] | persons;
                }
            }
        }

        private int personsFor(int set) {
            int bits = 0;
            for (int i = 0; i < lostCount; i++) {
                if ((choices[set] >> i & 1) == 1) bits |= 1 << same[i];
            }
            return bits;
        }

        /** The one MISSING that a SET has in all NAMINGS of a set of SETS; -1 if there is none. */
        int soleChoice(int set, int sets) {
            int sole = -1;
            for (int i = 0; i < lostCount; i++) {
                if ((choices[set] >> i & 1) == 0) continue;
                if (shortage(sets & ~(1 << set), 1 << same[i]) != 0) continue;
                if (sole >= 0) return -1;
                sole = i;
            }
            return sole;
        }

        int setsBeside(int set) {
            int bits = 0;
            for (int other = 0; other < setCount; other++) {
                if (grave[other] == grave[set]) bits |= 1 << other;
            }
            return bits;
        }

        /** Which MISSING (its index) a SET is NAMED; -1 if none. */
        int givenTo(int set) {
            return given[set];
        }

        void entitle(int set, int index) {
            given[set] = index;
            givenTurn[set] = turns;
            turns++;
        }

        int strip(int set) {
            int turn = givenTurn[set];
            int many = 0;
            for (int other = 0; other < setCount; other++) {
                boolean later = given[other] >= 0 && givenTurn[other] >= turn;
                if (!later || grave[other] != grave[set]) continue;
                given[other] = -1;
                many++;
            }
            return many;
        }

        int givenSets() {
            int many = 0;
            for (int set = 0; set < setCount; set++) {
                if (given[set] >= 0) many++;
            }
            return many;
        }
    }
}
