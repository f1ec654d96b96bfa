import java.util.ArrayList;
import java.util.Arrays;
import java.util.HashMap;
import java.util.LinkedHashMap;
import java.util.List;
import java.util.Map;
import java.util.TreeSet;

/** The document read a second time, by plain search over all that there is, to be held against LastSeen. */
final class Plain {
    private static final int NONE = -1, BAD = -2, STATE = -3, FULL = -4;
    /** KEYS that were made, for the time it takes. */
    private static final Map<String, String> KEYS = new HashMap<>();

    /** An ENTRY of the BOOK: kind n, j, p, w, x (withdrawal) or r. */
    private record Entry(char kind, int a, int b, String text) { }

    private record Word(int witness, int name, int places, int first, int last, int of) { }

    private record Road(int a, int b, int length) { }

    private record Found(int name, int e, int digit) { }

    private record Bone(int grave, int pair, int side, int size) { }

    private record Grave(int grave, int low, int high, int has, int hasNot) { }

    private record Lost(int height, int had, int hadNot) { }

    private final List<Entry> book = new ArrayList<>();
    private final List<Word> words = new ArrayList<>();
    private final List<Road> roads = new ArrayList<>();
    private final List<Found> founds = new ArrayList<>();
    private final List<Bone> bones = new ArrayList<>();
    private final List<Grave> sets = new ArrayList<>();
    private final Map<Integer, Lost> lost = new LinkedHashMap<>();
    /** The SETS that are NAMED, in the order of that, with their NAMES. */
    private final Map<Integer, Integer> given = new LinkedHashMap<>();
    private String tape = "";
    private int bound = 2;

    // ---- land

    int road(int a, int b, int length) {
        if (a < 0 || a > 9 || b < 0 || b > 9) return NONE;
        if (length < 1 || length > 30 || a == b) return BAD;
        if (roads.size() == 40) return FULL;
        roads.add(new Road(a, b, length));
        return roads.size();
    }

    int far(int a, int b) {
        if (a < 0 || a > 9 || b < 0 || b > 9) return NONE;
        return distance(a, b);
    }

    /** By relaxing all ROADS ten times; -5 if none leads. */
    private int distance(int a, int b) {
        int[] best = new int[10];
        Arrays.fill(best, -5);
        best[a] = 0;
        for (int round = 0; round < 10; round++) {
            for (Road road : roads) {
                relax(best, road.a, road.b, road.length);
                relax(best, road.b, road.a, road.length);
            }
        }
        return best[b];
    }

    private static void relax(int[] best, int a, int b, int length) {
        if (best[a] >= 0 && (best[b] < 0 || best[b] > best[a] + length)) best[b] = best[a] + length;
    }

    // ---- names

    int feed(long w, int n) {
        if (n < 1 || n > 8) return BAD;
        if (tape.length() + n > 200) return FULL;
        for (int i = n; i > 0; i--) tape += (char) (w >>> (i - 1) * 8 & 255);
        return tape.length();
    }

    int name() {
        if (!tape.matches("[a-z]{1,12}")) return BAD;
        if (namesBy(book.size()).size() == 20 || book.size() == 200) return FULL;
        book.add(new Entry('n', 0, 0, tape));
        tape = "";
        return namesBy(book.size()).size() - 1;
    }

    private List<String> namesBy(int e) {
        List<String> names = new ArrayList<>();
        for (Entry entry : book.subList(0, Math.max(e, 0))) if (entry.kind == 'n') names.add(entry.text);
        return names;
    }

    private static String keyOf(String name) {
        return KEYS.computeIfAbsent(name, Plain::makeKey);
    }

    private static String makeKey(String name) {
        String key = name.replaceAll("[qk]", "c").replace("z", "s").replaceAll("[yj]", "i").replace("w", "v");
        key = key.replace("ph", "f");
        key = key.charAt(0) + key.substring(1).replace("h", "");
        key = key.replaceAll("(.)\\1+", "$1");
        return key.charAt(0) + key.substring(1).replaceAll("[aeiou]", "");
    }

    int key(int name, int i) {
        List<String> names = namesBy(book.size());
        if (name < 0 || name >= names.size()) return -5;
        String key = keyOf(names.get(name));
        if (i == -1) return key.length();
        return i < 0 || i >= key.length() ? -5 : key.charAt(i) - 'a';
    }

    int join(int a, int b) {
        return decree('j', a, b);
    }

    int part(int a, int b) {
        return decree('p', a, b);
    }

    private int decree(char kind, int a, int b) {
        if (!isName(a, book.size()) || !isName(b, book.size())) return NONE;
        if (a == b) return BAD;
        if (book.size() == 200) return FULL;
        book.add(new Entry(kind, Math.min(a, b), Math.max(a, b), ""));
        return book.size();
    }

    private int by(int e) {
        return e == -1 ? book.size() : e;
    }

    private boolean isName(int name, int e) {
        return e >= 0 && e <= book.size() && name >= 0 && name < namesBy(e).size();
    }

    /** j or p, by the last decree; n if there was none. */
    private char lastDecree(int a, int b, int e) {
        for (int i = e - 1; i >= 0; i--) {
            Entry entry = book.get(i);
            boolean decree = entry.kind == 'j' || entry.kind == 'p';
            if (decree && entry.a == Math.min(a, b) && entry.b == Math.max(a, b)) return entry.kind;
        }
        return 'n';
    }

    private boolean linked(int a, int b, int e) {
        if (a == b) return false;
        char decree = lastDecree(a, b, e);
        if (decree != 'n') return decree == 'j';
        List<String> names = namesBy(e);
        return keyOf(names.get(a)).equals(keyOf(names.get(b)));
    }

    int link(int a, int b, int told) {
        int e = by(told);
        if (!isName(a, e) || !isName(b, e)) return NONE;
        if (a == b) return BAD;
        return linked(a, b, e) ? 1 : 0;
    }

    /** All that LINKS lead to from a NAME. */
    private TreeSet<Integer> onesOf(int name, int e) {
        TreeSet<Integer> ones = new TreeSet<>(List.of(name));
        for (int round = 0; round < 20; round++) {
            for (int other = 0; other < namesBy(e).size(); other++) {
                for (int one : List.copyOf(ones)) if (linked(one, other, e)) ones.add(other);
            }
        }
        return ones;
    }

    int person(int name, int told) {
        int e = by(told);
        return isName(name, e) ? onesOf(name, e).first() : NONE;
    }

    int tie(int a, int b, int what) {
        int e = book.size();
        if (!isName(a, e) || !isName(b, e) || what < -1) return NONE;
        if (a == b) return BAD;
        if (lastDecree(a, b, e) != 'p' || !onesOf(a, e).contains(b)) return STATE;
        List<List<Integer>> rows = new ArrayList<>();
        rows.add(List.of(Math.min(a, b)));
        // Rows are made longer all at once and stay in order, so the first that gets there is the least.
        for (int length = 1; length <= 20; length++) {
            List<List<Integer>> longer = new ArrayList<>();
            TreeSet<Integer> ends = new TreeSet<>();
            for (List<Integer> row : rows) {
                int end = row.get(row.size() - 1);
                if (end == Math.max(a, b)) return pick(row, what);
                for (int next = 0; next < namesBy(e).size(); next++) {
                    if (!linked(end, next, e) || !ends.add(next)) continue;
                    List<Integer> more = new ArrayList<>(row);
                    more.add(next);
                    longer.add(more);
                }
            }
            rows = longer;
        }
        throw new IllegalStateException();
    }

    private static int pick(List<Integer> row, int i) {
        if (i == -1) return row.size();
        return i < 0 || i >= row.size() ? NONE : row.get(i);
    }

    // ---- words

    int word(int witness, int name, int places, int first, int last, int of) {
        if (witness < 0 || witness > 29 || !isName(name, book.size()) || of < -1 || of >= words.size()) return NONE;
        if (places < 1 || places > 1023 || first < 0 || last > 999 || first > last) return BAD;
        if (words.size() == 40 || book.size() == 200) return FULL;
        book.add(new Entry('w', words.size(), 0, ""));
        words.add(new Word(witness, name, places, first, last, of));
        return words.size() - 1;
    }

    private boolean isWord(int word, int e) {
        return e >= 0 && e <= book.size() && book.subList(0, e).contains(new Entry('w', word, 0, ""));
    }

    private boolean stands(int word, int e) {
        if (!isWord(word, e) || book.subList(0, e).contains(new Entry('x', word, 0, ""))) return false;
        int of = words.get(word).of;
        return of == -1 || stands(of, e);
    }

    private int standing(int e) {
        int many = 0;
        for (int word = 0; word < words.size(); word++) if (stands(word, e)) many++;
        return many;
    }

    int withdraw(int word) {
        if (!isWord(word, book.size())) return NONE;
        if (book.contains(new Entry('x', word, 0, ""))) return STATE;
        if (book.size() == 200) return FULL;
        book.add(new Entry('x', word, 0, ""));
        return standing(book.size() - 1) - standing(book.size());
    }

    private int rootOf(int word) {
        int of = words.get(word).of;
        return of == -1 ? word : rootOf(of);
    }

    int about(int word, int told, int what) {
        int e = by(told);
        if (!isWord(word, e) || what < 0 || what > 2) return NONE;
        if (what == 0) return stands(word, e) ? 1 : 0;
        return what == 1 ? rootOf(word) : onesOf(words.get(word).name, e).first();
    }

    /** The WORDS of the PERSON of a NAME by e that stand by then. */
    private List<Integer> wordsOf(int name, int e) {
        List<Integer> mine = new ArrayList<>();
        TreeSet<Integer> ones = onesOf(name, e);
        for (int word = 0; word < words.size(); word++) {
            if (stands(word, e) && ones.contains(words.get(word).name)) mine.add(word);
        }
        return mine;
    }

    private List<Integer> rootsOf(List<Integer> mine) {
        TreeSet<Integer> roots = new TreeSet<>();
        for (int word : mine) roots.add(rootOf(word));
        return new ArrayList<>(roots);
    }

    private List<Integer> rootsOf(int name, int e) {
        return rootsOf(wordsOf(name, e));
    }

    int root(int name, int told, int i) {
        int e = by(told);
        return isName(name, e) ? pick(rootsOf(name, e), i) : NONE;
    }

    private int eyesOf(List<Integer> roots) {
        TreeSet<Integer> eyes = new TreeSet<>();
        for (int root : roots) eyes.add(words.get(root).witness);
        return eyes.size();
    }

    int eyes(int name, int told) {
        int e = by(told);
        return isName(name, e) ? eyesOf(rootsOf(name, e)) : NONE;
    }

    private List<Word> stays(List<Integer> roots) {
        List<Word> stays = new ArrayList<>();
        for (int root : roots.subList(0, Math.min(8, roots.size()))) stays.add(words.get(root));
        return stays;
    }

    private boolean canBe(List<Word> stays) {
        int[][] apart = new int[10][10];
        for (int a = 0; a < 10; a++) for (int b = 0; b < 10; b++) apart[a][b] = distance(a, b);
        return canGoOn(stays, apart, new int[stays.size()], new int[stays.size()], 0, 0);
    }

    /** Tries each order and all PLACES; each stay keeps as many WATCHES as FAR from all that are ahead of it. */
    private static boolean canGoOn(List<Word> stays, int[][] apart, int[] where, int[] when, int done, int used) {
        if (done == stays.size()) return true;
        for (int next = 0; next < stays.size(); next++) {
            if ((used >> next & 1) == 1) continue;
            for (int place = 0; place < 10; place++) {
                if ((stays.get(next).places >> place & 1) == 0) continue;
                int watch = stays.get(next).first;
                for (int i = 0; i < done && watch <= 999; i++) {
                    int far = apart[where[i]][place];
                    watch = far < 0 ? 1000 : Math.max(watch, when[i] + far);
                }
                if (watch > stays.get(next).last) continue;
                where[done] = place;
                when[done] = watch;
                if (canGoOn(stays, apart, where, when, done + 1, used | 1 << next)) return true;
            }
        }
        return false;
    }

    int can(int name, int told) {
        int e = by(told);
        if (!isName(name, e)) return NONE;
        return canBe(stays(rootsOf(name, e))) ? 1 : 0;
    }

    int quarrel(int name, int told, int i) {
        int e = by(told);
        if (!isName(name, e) || i < -1) return NONE;
        List<Integer> roots = rootsOf(name, e);
        if (canBe(stays(roots))) return STATE;
        int many = Math.min(8, roots.size());
        for (int size = 1; size <= many; size++) {
            for (int bits = 1; bits < 1 << many; bits++) {
                if (Integer.bitCount(bits) != size) continue;
                List<Integer> some = new ArrayList<>();
                for (int k = 0; k < many; k++) if ((bits >> k & 1) == 1) some.add(roots.get(k));
                if (!canBe(stays(some))) return pick(some, i);
            }
        }
        throw new IllegalStateException();
    }

    int could(int name, int told, int place, int watch) {
        int e = by(told);
        if (!isName(name, e) || place < 0 || place > 9) return NONE;
        if (watch < 0 || watch > 999) return BAD;
        List<Word> stays = stays(rootsOf(name, e));
        stays.add(new Word(0, 0, 1 << place, watch, watch, -1));
        return canBe(stays) ? 1 : 0;
    }

    private int lastOf(List<Integer> roots) {
        int last = -5;
        for (int root : roots) if (last < 0 || words.get(root).last > words.get(last).last) last = root;
        return last;
    }

    int last(int name, int told) {
        int e = by(told);
        return isName(name, e) ? lastOf(rootsOf(name, e)) : NONE;
    }

    // ---- rules, findings

    private int many(char kind, int e) {
        int many = 0;
        for (Entry entry : book.subList(0, e)) if (entry.kind == kind) many++;
        return many;
    }

    int rule() {
        if (many('r', book.size()) == 20 || book.size() == 200) return FULL;
        String text = tape;
        tape = "";
        PlainRule rule = new PlainRule(text);
        if (rule.fault() >= 0) return -10 - rule.fault();
        book.add(new Entry('r', 0, 0, text));
        return rule.clauses();
    }

    private PlainRule ruleBy(int e) {
        for (int i = e - 1; i >= 0; i--) if (book.get(i).kind == 'r') return new PlainRule(book.get(i).text);
        return null;
    }

    private int decide(PlainRule rule, int name, int e, List<Integer> mine) {
        List<Integer> roots = rootsOf(mine);
        int heard = 0;
        for (int word : mine) if (words.get(word).of >= 0) heard++;
        int last = lastOf(roots);
        Map<Character, Integer> letters = new LinkedHashMap<>();
        letters.put('r', roots.size());
        letters.put('e', eyesOf(roots));
        letters.put('h', heard);
        letters.put('c', canBe(stays(roots)) ? 1 : 0);
        letters.put('n', onesOf(name, e).size());
        letters.put('l', last < 0 ? 0 : words.get(last).last);
        letters.put('k', last < 0 ? 0 : Integer.bitCount(words.get(last).places));
        return rule.decide(letters);
    }

    int finding(int name, int told) {
        int e = by(told);
        if (!isName(name, e)) return NONE;
        PlainRule rule = ruleBy(e);
        return rule == null ? -5 : decide(rule, name, e, wordsOf(name, e));
    }

    int find(int name) {
        if (!isName(name, book.size())) return NONE;
        int digit = finding(name, -1);
        if (digit < 0) return STATE;
        if (founds.size() == 30) return FULL;
        founds.add(new Found(name, book.size(), digit));
        return founds.size() - 1;
    }

    private boolean holds(Found found) {
        List<Integer> mine = new ArrayList<>();
        for (int word : wordsOf(found.name, found.e)) if (stands(word, book.size())) mine.add(word);
        return decide(ruleBy(found.e), found.name, found.e, mine) == found.digit;
    }

    int found(int finding, int what) {
        if (finding < 0 || finding >= founds.size()) return NONE;
        Found found = founds.get(finding);
        List<Integer> mine = wordsOf(found.name, found.e);
        TreeSet<Integer> leans = new TreeSet<>(mine);
        leans.addAll(rootsOf(mine));
        if (what == 0) return found.name;
        if (what == 1) return found.e;
        if (what == 2) return found.digit;
        if (what == 3) return holds(found) ? 1 : 0;
        if (what == 4) return leans.size();
        return what < 10 ? NONE : pick(new ArrayList<>(leans), what - 10);
    }

    // ---- graves

    int bone(int grave, int pair, int side, int size) {
        if (grave < 0 || grave > 3) return NONE;
        if (pair < 0 || pair > 3 || side < 0 || side > 1 || size < 0 || size > 99) return BAD;
        if (sizes(grave, pair, side).size() == 12) return FULL;
        bones.add(new Bone(grave, pair, side, size));
        return sizes(grave, pair, side).size();
    }

    private List<Integer> sizes(int grave, int pair, int side) {
        List<Integer> sizes = new ArrayList<>();
        for (Bone bone : bones) {
            if (bone.grave == grave && bone.pair == pair && bone.side == side) sizes.add(bone.size);
        }
        return sizes;
    }

    int bound(int n) {
        if (n < 0 || n > 20) return BAD;
        int was = bound;
        bound = n;
        return was;
    }

    int least(int grave) {
        if (grave < 0 || grave > 3) return NONE;
        int least = 0;
        for (int pair = 0; pair < 4; pair++) {
            List<Integer> lefts = sizes(grave, pair, 0);
            List<Integer> rights = sizes(grave, pair, 1);
            int[] mate = new int[rights.size()];
            Arrays.fill(mate, -1);
            int couples = 0;
            for (int i = 0; i < lefts.size(); i++) if (finds(i, lefts, rights, mate, new boolean[12])) couples++;
            least = Math.max(least, lefts.size() + rights.size() - couples);
        }
        return least;
    }

    /** Couples by ways that part and join again, whatever the SIZES are. */
    private boolean finds(int left, List<Integer> lefts, List<Integer> rights, int[] mate, boolean[] asked) {
        for (int right = 0; right < rights.size(); right++) {
            if (asked[right] || Math.abs(lefts.get(left) - rights.get(right)) > bound) continue;
            asked[right] = true;
            if (mate[right] < 0 || finds(mate[right], lefts, rights, mate, asked)) {
                mate[right] = left;
                return true;
            }
        }
        return false;
    }

    private static boolean badMarks(int yes, int no) {
        return (yes & ~255) != 0 || (no & ~255) != 0 || (yes & no) != 0;
    }

    int set(int grave, int low, int high, int has, int hasNot) {
        if (grave < 0 || grave > 3) return NONE;
        if (low < 100 || high > 220 || low > high || badMarks(has, hasNot)) return BAD;
        if (sets.size() == 8) return FULL;
        sets.add(new Grave(grave, low, high, has, hasNot));
        return sets.size() - 1;
    }

    int missing(int name, int height, int had, int hadNot) {
        if (!isName(name, book.size())) return NONE;
        if (height != 0 && (height < 100 || height > 220) || badMarks(had, hadNot)) return BAD;
        if (given.containsValue(name)) return STATE;
        if (!lost.containsKey(name) && lost.size() == 10) return FULL;
        lost.put(name, new Lost(height, had, hadNot));
        return lost.size();
    }

    private boolean fits(int set, int name) {
        Grave grave = sets.get(set);
        Lost one = lost.get(name);
        boolean tall = one.height == 0 || one.height >= grave.low && one.height <= grave.high;
        return tall && (grave.has & one.hadNot) == 0 && (grave.hasNot & one.had) == 0;
    }

    private boolean isSet(int set) {
        return set >= 0 && set < sets.size();
    }

    int fit(int set, int name) {
        if (!isSet(set) || !lost.containsKey(name)) return NONE;
        return fits(set, name) ? 1 : 0;
    }

    /** All NAMINGS: of each the NAME of each SET, in their order. */
    private List<int[]> all(int bits) {
        int[] person = new int[20];
        for (int name : lost.keySet()) person[name] = onesOf(name, book.size()).first();
        List<int[]> all = new ArrayList<>();
        spread(bits, person, 0, new int[8], all);
        return all;
    }

    private void spread(int bits, int[] person, int set, int[] so, List<int[]> all) {
        if (set == 8) {
            all.add(so.clone());
            return;
        }
        if ((bits >> set & 1) == 0) {
            so[set] = -1;
            spread(bits, person, set + 1, so, all);
            return;
        }
        for (int name : lost.keySet()) {
            if (!allowed(set, name, person)) continue;
            boolean twice = false;
            for (int i = 0; i < set; i++) twice |= so[i] >= 0 && person[so[i]] == person[name];
            if (twice) continue;
            so[set] = name;
            spread(bits, person, set + 1, so, all);
        }
    }

    private boolean allowed(int set, int name, int[] person) {
        if (given.containsKey(set)) return given.get(set) == name;
        for (int one : given.values()) if (person[one] == person[name]) return false;
        return fits(set, name);
    }

    private boolean badSets(int bits) {
        return (bits & ~((1 << sets.size()) - 1)) != 0;
    }

    int namings(int bits) {
        return badSets(bits) ? BAD : Math.min(all(bits).size(), 1000000);
    }

    private int onlyOf(int set, int bits) {
        int only = -5;
        for (int[] one : all(bits)) {
            if (only >= 0 && only != one[set]) return -5;
            only = one[set];
        }
        return only;
    }

    int only(int set, int bits) {
        if (!isSet(set)) return NONE;
        if (badSets(bits) || (bits >> set & 1) == 0) return BAD;
        return onlyOf(set, bits);
    }

    int why(int bits) {
        if (badSets(bits)) return BAD;
        if (!all(bits).isEmpty()) return 0;
        int why = 0;
        for (int some = 1; some <= bits; some++) {
            if ((some & ~bits) != 0 || why != 0 && Integer.bitCount(some) >= Integer.bitCount(why)) continue;
            if (all(some).isEmpty()) why = some;
        }
        return why;
    }

    int give(int set) {
        if (!isSet(set)) return NONE;
        if (given.containsKey(set)) return STATE;
        int bits = 0;
        for (int i = 0; i < sets.size(); i++) if (sets.get(i).grave == sets.get(set).grave) bits |= 1 << i;
        int name = onlyOf(set, bits);
        if (name < 0) return STATE;
        given.put(set, name);
        return name;
    }

    int take(int set) {
        if (!isSet(set)) return NONE;
        if (!given.containsKey(set)) return STATE;
        List<Integer> order = new ArrayList<>(given.keySet());
        int many = 0;
        for (int later : order.subList(order.indexOf(set), order.size())) {
            if (sets.get(later).grave != sets.get(set).grave) continue;
            given.remove(later);
            many++;
        }
        return many;
    }

    int named(int set) {
        return isSet(set) ? given.getOrDefault(set, -5) : NONE;
    }

    int count(int what) {
        int e = book.size();
        switch (what) {
            case 0: return e;
            case 1: return many('n', e);
            case 2: return persons(e);
            case 3: return words.size();
            case 4: return standing(e);
            case 5: return many('r', e);
            case 6: return founds.size();
            case 7: return (int) founds.stream().filter(this::holds).count();
            case 8: return sets.size();
            case 9: return lost.size();
            case 10: return given.size();
            case 11: return tape.length();
            default: return NONE;
        }
    }

    private int persons(int e) {
        TreeSet<Integer> persons = new TreeSet<>();
        for (int name = 0; name < many('n', e); name++) persons.add(onesOf(name, e).first());
        return persons.size();
    }
}
