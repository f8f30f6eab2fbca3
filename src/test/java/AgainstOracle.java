import java.util.ArrayList;
import java.util.Arrays;
import java.util.HashMap;
import java.util.List;
import java.util.Map;
import java.util.NoSuchElementException;
import java.util.Random;
import java.util.TreeSet;
import java.util.regex.Matcher;
import java.util.regex.Pattern;

/**
 * Random runs of calls, each answer and each ROW compared with those of a second, slow program, which goes by the
 * document's words: it looks at the greatest town that A and E leave, at all subsets, at all proofs till none is shorter.
 * Arguments: how many runs, the seed of the first.
 */
public final class AgainstOracle {
    private static final int ALL_MOODS = 4194303;
    private static int wrong = 0;

    // ---- the second program

    /** A saying as it was told. */
    private static final class Said {
        int form;
        int x;
        int y;
        int witness;
        boolean doubted;
        boolean withdrawn;

        int code() {
            return 576 * form + 24 * x + y;
        }
    }

    private static final class Pleaded {
        int lawyer;
        int first;
        int second;
        int code;
        int mood;
    }

    private static final class Kept {
        int sayings;
        List<boolean[]> flags = new ArrayList<>();
        int living;
        int allowed;
    }

    private static final class Proof {
        int mood;
        int first;
        int second;
    }

    private static final Pattern SAYINGS = Pattern.compile("([AEIO]-?[a-l]-?[a-l]@[0-7]\\??(;[AEIO]-?[a-l]-?[a-l]@[0-7]\\??)*)?");
    private static final Pattern PLEAS = Pattern.compile(
        "([0-3]:[0-9]{1,2}(\\+[0-9]{1,2})?[AEIO]-?[a-l]-?[a-l](;[0-3]:[0-9]{1,2}(\\+[0-9]{1,2})?[AEIO]-?[a-l]-?[a-l])*)?");
    private static final String[] MOODS = {"AAA1", "EAE1", "AII1", "EIO1", "EAE2", "AEE2", "EIO2", "AOO2", "IAI3", "AII3", "OAO3",
        "EIO3", "AEE4", "IAI4", "EIO4", "AAI3m", "EAO3m", "EAO4m", "AAI4p"};

    private final StringBuilder text = new StringBuilder();
    private final List<Said> said = new ArrayList<>();
    private final List<Integer> wanted = new ArrayList<>();
    private final List<Pleaded> steps = new ArrayList<>();
    private final Kept[] kept = new Kept[3];
    private int living = 0;
    private int allowed = ALL_MOODS;
    private int[] row = {};

    private static boolean isCode(int code) {
        return 0 <= code && code <= 2303;
    }

    private static boolean isTerm(int term) {
        return 0 <= term && term <= 23;
    }

    private static boolean of(int sort, int term) {
        boolean is = (sort & 1 << term / 2) != 0;
        return term % 2 == 0 ? is : !is;
    }

    private static int contrary(int code) {
        int form = code / 576;
        int[] other = {3, 2, 1, 0};
        return other[form] * 576 + code % 576;
    }

    /** Whether it is true of a town. */
    private static boolean isTrue(int code, boolean[] town) {
        int form = code / 576;
        int x = code % 576 / 24;
        int y = code % 24;
        boolean someAre = false;
        boolean someAreNot = false;
        for (int sort = 0; sort < town.length; sort++) {
            if (town[sort] && of(sort, x)) {
                someAre |= of(sort, y);
                someAreNot |= !of(sort, y);
            }
        }
        boolean[] truths = {!someAreNot, !someAre, someAre, someAreNot};
        return truths[form];
    }

    /** All sorts of which, as the only one of a town, each A and E is true. */
    private static boolean[] greatest(List<Integer> codes) {
        boolean[] town = new boolean[4096];
        for (int sort = 0; sort < 4096; sort++) {
            boolean can = true;
            for (int code : codes) {
                int x = code % 576 / 24;
                int y = code % 24;
                if (code / 576 == 0 && of(sort, x) && !of(sort, y) || code / 576 == 1 && of(sort, x) && of(sort, y)) {
                    can = false;
                    break;
                }
            }
            town[sort] = can;
        }
        return town;
    }

    private static boolean canHold(List<Integer> codes, int living) {
        boolean[] town = greatest(codes);
        for (int code : codes) {
            if (!isTrue(code, town)) {
                return false;
            }
        }
        for (int kind = 0; kind < 12; kind++) {
            if ((living & 1 << kind) != 0 && !isTrue(2 * 576 + 24 * 2 * kind + 2 * kind, town)) {
                return false;
            }
        }
        return true;
    }

    private static boolean follows(List<Integer> codes, int code, int living) {
        List<Integer> more = new ArrayList<>(codes);
        more.add(contrary(code));
        return !canHold(more, living);
    }

    private final Map<Long, Boolean> known = new HashMap<>();

    private boolean canHold(int bits) {
        long key = (long) bits << 32 | (long) living << 16 | 0xFFFF;
        Boolean answer = known.get(key);
        if (answer == null) {
            answer = canHold(codes(bits), living);
            known.put(key, answer);
        }
        return answer;
    }

    private boolean follows(int bits, int code) {
        long key = (long) bits << 32 | (long) living << 16 | code;
        Boolean answer = known.get(key);
        if (answer == null) {
            answer = follows(codes(bits), code, living);
            known.put(key, answer);
        }
        return answer;
    }

    private List<Integer> codes(int bits) {
        List<Integer> codes = new ArrayList<>();
        for (int i = 0; i < said.size(); i++) {
            if ((bits & 1 << i) != 0) {
                codes.add(said.get(i).code());
            }
        }
        return codes;
    }

    private int active() {
        int bits = 0;
        for (int i = 0; i < said.size(); i++) {
            bits |= said.get(i).withdrawn ? 0 : 1 << i;
        }
        return bits;
    }

    private int doubted() {
        int bits = 0;
        for (int i = 0; i < said.size(); i++) {
            bits |= said.get(i).doubted ? 1 << i : 0;
        }
        return bits;
    }

    private int ofWitnesses(int witnesses) {
        int bits = 0;
        for (int i = 0; i < said.size(); i++) {
            bits |= !said.get(i).withdrawn && (witnesses & 1 << said.get(i).witness) != 0 ? 1 << i : 0;
        }
        return bits;
    }

    int sign(int v) {
        if (text.length() + 4 > 80) {
            return -1;
        }
        text.append((char) (v >>> 24)).append((char) (v >>> 16 & 255)).append((char) (v >>> 8 & 255)).append((char) (v & 255));
        return text.length();
    }

    boolean end(int n) {
        if (n < 0 || n > text.length()) {
            return false;
        }
        text.setLength(n);
        return true;
    }

    /** The first sign that can't stand where it is; NONE: the text is as it should be. */
    private static int firstWrong(Pattern pattern, String signs) {
        String seen = signs.length() > 76 ? signs.substring(0, 76) : signs;
        for (int n = 1; n <= seen.length(); n++) {
            Matcher matcher = pattern.matcher(seen.substring(0, n));
            if (!matcher.matches() && !matcher.hitEnd()) {
                return n - 1;
            }
        }
        if (signs.length() > 76) {
            return 76;
        }
        return pattern.matcher(signs).matches() ? -1 : signs.length();
    }

    int told() {
        String signs = text.toString();
        text.setLength(0);
        int place = firstWrong(SAYINGS, signs);
        int line = 0;
        for (int i = 0; i < signs.length(); i++) {
            if ((i == 0 || signs.charAt(i - 1) == ';') && (place < 0 || i <= place)) {
                if (said.size() + line >= 16) {
                    return -1 - i;
                }
                line++;
            }
        }
        if (place >= 0) {
            return -1 - place;
        }
        int before = said.size();
        for (String one : signs.isEmpty() ? new String[0] : signs.split(";")) {
            Said s = new Said();
            s.form = "AEIO".indexOf(one.charAt(0));
            String terms = one.substring(1, one.indexOf('@'));
            int[] xy = terms(terms);
            s.x = xy[0];
            s.y = xy[1];
            s.witness = one.charAt(one.indexOf('@') + 1) - '0';
            s.doubted = one.endsWith("?");
            said.add(s);
        }
        return said.size() - before;
    }

    private static int[] terms(String signs) {
        Matcher m = Pattern.compile("(-?)([a-l])(-?)([a-l])").matcher(signs);
        if (!m.matches()) {
            throw new IllegalStateException(signs);
        }
        int x = 2 * (m.group(2).charAt(0) - 'a') + m.group(1).length();
        int y = 2 * (m.group(4).charAt(0) - 'a') + m.group(3).length();
        return new int[] {x, y};
    }

    int saying(int i, int what) {
        if (i < 0 || i >= said.size() || what < 0 || what > 3) {
            throw new NoSuchElementException();
        }
        Said s = said.get(i);
        int[] all = {s.code(), s.witness, s.doubted ? 1 : 0, s.withdrawn ? 1 : 0};
        return all[what];
    }

    boolean mark(int i, int what, boolean is) {
        if (i < 0 || i >= said.size() || what < 0 || what > 1) {
            return false;
        }
        if (what == 0) {
            said.get(i).doubted = is;
        } else {
            said.get(i).withdrawn = is;
        }
        return true;
    }

    boolean lives(int kind, boolean is) {
        if (kind < 0 || kind > 11) {
            return false;
        }
        living = is ? living | 1 << kind : living & ~(1 << kind);
        return true;
    }

    int want(int code) {
        if (!isCode(code) || wanted.size() == 6) {
            return -1;
        }
        wanted.add(code);
        return wanted.size();
    }

    int forget() {
        int n = wanted.size();
        wanted.clear();
        return n;
    }

    int sheet(int kind, int n, int f, int step) {
        if (kind < 0 || kind > 3 || n > 12) {
            return -1;
        }
        if (kind == 3) {
            living = 0;
            return -3;
        }
        if (n < 0) {
            return -2;
        }
        living = 0;
        int count = 0;
        for (int k = 0; k < n; k++) {
            int entry = f + k * step;
            entry = kind == 0 ? (byte) entry : kind == 1 ? (short) entry : entry;
            if (entry > 0) {
                living |= 1 << k;
                count++;
            }
        }
        return count;
    }

    int holds() {
        return canHold(active()) ? 1 : 0;
    }

    int follows(int code) {
        if (!isCode(code)) {
            return -1;
        }
        return !follows(active(), code) ? 0 : follows(active() & ~doubted(), code) ? 2 : 1;
    }

    int decided(int code) {
        if (!isCode(code)) {
            return -1;
        }
        return (follows(active(), code) ? 1 : 0) + (follows(active(), contrary(code)) ? 2 : 0);
    }

    int from(int bits, int code) {
        if (!isCode(code) || bits < 0 || bits >= 1 << said.size()) {
            return -1;
        }
        return follows(bits, code) ? 1 : 0;
    }

    int needs(int code) {
        if (!isCode(code)) {
            return -1;
        }
        if (!follows(active(), code)) {
            return -2;
        }
        int bits = 0;
        for (int i = 0; i < said.size(); i++) {
            if (!said.get(i).withdrawn && !follows(active() ^ 1 << i, code)) {
                bits |= 1 << i;
            }
        }
        return bits;
    }

    private interface Enough {
        boolean is(int bits);
    }

    /** Of all subsets that are enough the best; dear ones are counted behind how many there are. */
    private int best(int elements, int dear, Enough enough) {
        int best = -2;
        for (int set = elements;; set = set - 1 & elements) {
            boolean better = best == -2 || Integer.bitCount(set) < Integer.bitCount(best)
                || Integer.bitCount(set) == Integer.bitCount(best)
                && (Integer.bitCount(set & dear) < Integer.bitCount(best & dear)
                || Integer.bitCount(set & dear) == Integer.bitCount(best & dear) && set < best);
            if (better && enough.is(set)) {
                best = set;
            }
            if (set == 0) {
                break;
            }
        }
        if (best == -2) {
            return -2;
        }
        row = new int[] {best};
        return Integer.bitCount(best);
    }

    int fewest() {
        return best(active(), 0, set -> {
            for (int code : wanted) {
                if (!follows(set, code)) {
                    return false;
                }
            }
            return true;
        });
    }

    int idle() {
        int bits = 0;
        for (int i = 0; i < said.size(); i++) {
            if (!said.get(i).withdrawn && follows(active() ^ 1 << i, said.get(i).code())) {
                bits |= 1 << i;
            }
        }
        return bits;
    }

    int alike(int code, int other) {
        if (!isCode(code) || !isCode(other)) {
            return -1;
        }
        boolean second = follows(List.of(code), other, living);
        boolean first = follows(List.of(other), code, living);
        return first && second ? 1 : second ? 2 : first ? 3 : 0;
    }

    int clash() {
        return best(active(), ~doubted(), set -> canHold(active() & ~set));
    }

    int liars() {
        return best(255, 0, set -> canHold(active() & ~ofWitnesses(set)));
    }

    int truth(int witness) {
        if (witness < 0 || witness > 7) {
            return -1;
        }
        int others = ofWitnesses(255 & ~(1 << witness));
        int count = 0;
        int contraries = 0;
        for (Said s : said) {
            if (s.witness == witness && !s.withdrawn) {
                count += follows(others, s.code()) ? 1 : 0;
                contraries += follows(others, contrary(s.code())) ? 1 : 0;
            }
        }
        row = new int[] {contraries};
        return count;
    }

    int trusts(int witnesses, int code) {
        if (witnesses < 0 || witnesses > 255 || !isCode(code)) {
            return -1;
        }
        return follows(ofWitnesses(witnesses), code) ? 1 : 0;
    }

    int convicts(int code) {
        if (!isCode(code)) {
            return -1;
        }
        return best(255, 0, set -> follows(ofWitnesses(set), code));
    }

    private List<Integer> universals() {
        List<Integer> codes = new ArrayList<>();
        for (int code : codes(active())) {
            if (code < 1152) {
                codes.add(code);
            }
        }
        return codes;
    }

    int all(int term) {
        if (!isTerm(term)) {
            return -1;
        }
        int bits = 0;
        boolean[] town = greatest(universals());
        for (int y = 0; y < 24; y++) {
            bits |= isTrue(24 * term + y, town) ? 1 << y : 0;
        }
        return bits;
    }

    int empty() {
        int bits = 0;
        boolean[] town = greatest(universals());
        for (int t = 0; t < 24; t++) {
            bits |= isTrue(2 * 576 + 24 * t + t, town) ? 0 : 1 << t;
        }
        return bits;
    }

    /** Forward: the least row of each length to each term. */
    int chain(int x, int y) {
        if (!isTerm(x) || !isTerm(y)) {
            return -1;
        }
        int[][] rows = new int[24][];
        rows[x] = new int[0];
        for (int length = 0; length <= 24; length++) {
            if (rows[y] != null) {
                row = rows[y];
                return length;
            }
            int[][] next = new int[24][];
            for (int t = 0; t < 24; t++) {
                for (int i = 0; rows[t] != null && i < said.size(); i++) {
                    Said s = said.get(i);
                    int target = s.form == 0 ? s.y : s.y ^ 1;
                    if (s.withdrawn || s.form > 1) {
                        continue;
                    }
                    int[] longer = Arrays.copyOf(rows[t], length + 1);
                    longer[length] = i;
                    if (t == s.x && (next[target] == null || Arrays.compare(longer, next[target]) < 0)) {
                        next[target] = longer;
                    }
                    if (t == (target ^ 1) && (next[s.x ^ 1] == null || Arrays.compare(longer, next[s.x ^ 1]) < 0)) {
                        next[s.x ^ 1] = longer;
                    }
                }
            }
            rows = next;
        }
        return -2;
    }

    int sorts() {
        int count = 0;
        for (boolean is : greatest(universals())) {
            count += is ? 1 : 0;
        }
        return count;
    }

    int sort(int k) {
        if (k < 0) {
            return -1;
        }
        boolean[] town = greatest(universals());
        int ahead = 0;
        for (int sort = 0; sort < 4096; sort++) {
            if (town[sort]) {
                if (ahead == k) {
                    return sort;
                }
                ahead++;
            }
        }
        return -2;
    }

    private int countBoth(int x, int y) {
        boolean[] town = greatest(universals());
        int count = 0;
        for (int sort = 0; sort < 4096; sort++) {
            count += town[sort] && of(sort, x) && of(sort, y) ? 1 : 0;
        }
        return count;
    }

    int both(int x, int y) {
        return isTerm(x) && isTerm(y) ? countBoth(x, y) : -1;
    }

    int town() {
        return leastTown(codes(active()));
    }

    int refute(int code) {
        if (!isCode(code)) {
            return -1;
        }
        List<Integer> codes = codes(active());
        codes.add(contrary(code));
        return leastTown(codes);
    }

    /** How few sorts from each sort on do for each set of needs, from the last sort back. */
    private int leastTown(List<Integer> codes) {
        if (!canHold(codes, living)) {
            return -2;
        }
        List<Integer> needs = new ArrayList<>();
        for (int code : codes) {
            if (code >= 1152) {
                needs.add(code);
            }
        }
        for (int kind = 0; kind < 12; kind++) {
            if ((living & 1 << kind) != 0) {
                needs.add(1152 + 50 * kind);
            }
        }
        if (needs.size() > 12) {
            return -3;
        }
        boolean[] town = greatest(codes);
        int sets = 1 << needs.size();
        byte[][] few = new byte[4097][];
        few[4096] = new byte[sets];
        Arrays.fill(few[4096], (byte) 99);
        few[4096][0] = 0;
        int[] does = new int[4096];
        for (int sort = 4095; sort >= 0; sort--) {
            for (int i = 0; town[sort] && i < needs.size(); i++) {
                int code = needs.get(i);
                boolean is = of(sort, code % 576 / 24) && of(sort, code % 24) == (code < 1728);
                does[sort] |= is ? 1 << i : 0;
            }
            if (does[sort] == 0) {
                few[sort] = few[sort + 1];
                continue;
            }
            few[sort] = few[sort + 1].clone();
            for (int set = 0; set < sets; set++) {
                few[sort][set] = (byte) Math.min(few[sort + 1][set], 1 + few[sort + 1][set & ~does[sort]]);
            }
        }
        int[] least = new int[few[0][sets - 1]];
        int set = sets - 1;
        int n = 0;
        for (int sort = 0; sort < 4096; sort++) {
            if (n < least.length && does[sort] != 0 && 1 + few[sort + 1][set & ~does[sort]] == few[sort][set]) {
                least[n++] = sort;
                set &= ~does[sort];
            }
        }
        row = least;
        return least.length;
    }

    int judge(int a, int b, int c) {
        boolean[] town = new boolean[4096];
        for (int sort : new int[] {a, b, c}) {
            if (sort < 0 || sort > 4096) {
                return -1;
            }
            if (sort < 4096) {
                town[sort] = true;
            }
        }
        int lies = 0;
        for (int i = 0; i < said.size(); i++) {
            lies |= !said.get(i).withdrawn && !isTrue(said.get(i).code(), town) ? 1 << i : 0;
        }
        int missing = 0;
        for (int kind = 0; kind < 12; kind++) {
            boolean is = false;
            for (int sort = 0; sort < 4096; sort++) {
                is |= town[sort] && (sort >> kind & 1) == 1;
            }
            missing |= (living >> kind & 1) == 1 && !is ? 1 << kind : 0;
        }
        row = new int[] {lies, missing};
        return lies + missing == 0 ? 1 : 0;
    }

    /** Of the 256 towns of three kinds: s is kind 0, m kind 1, p kind 2. */
    private static boolean moodHolds(int[] codes, int third, int nonEmpty) {
        for (int bits = 0; bits < 256; bits++) {
            boolean[] town = new boolean[8];
            for (int sort = 0; sort < 8; sort++) {
                town[sort] = (bits >> sort & 1) == 1;
            }
            boolean counts = isTrue(codes[0], town) && isTrue(codes[1], town);
            for (int kind = 0; kind < 3; kind++) {
                counts &= (nonEmpty >> kind & 1) == 0 || isTrue(1152 + 50 * kind, town);
            }
            if (counts && !isTrue(576 * third + 4, town)) {
                return false;
            }
        }
        return true;
    }

    private static final Map<Integer, int[]> VERDICTS = new HashMap<>();

    /** The answer, and the number of the ROW behind it, if there is one. */
    private static int[] verdict(int first, int second, int third, int figure) {
        return VERDICTS.computeIfAbsent(first << 6 | second << 4 | third << 2 | figure - 1,
            key -> findVerdict(first, second, third, figure));
    }

    private static int[] findVerdict(int first, int second, int third, int figure) {
        int s = 0;
        int m = 2;
        int p = 4;
        int[][] firstTerms = {{m, p}, {p, m}, {m, p}, {p, m}};
        int[][] secondTerms = {{s, m}, {s, m}, {m, s}, {m, s}};
        int[] f = firstTerms[figure - 1];
        int[] g = secondTerms[figure - 1];
        int[] codes = {576 * first + 24 * f[0] + f[1], 576 * second + 24 * g[0] + g[1]};
        for (int size = 0; size <= 3; size++) {
            for (int set = 0; set < 8; set++) {
                if (Integer.bitCount(set) == size && moodHolds(codes, third, set)) {
                    return size == 0 ? new int[] {2} : new int[] {1, set};
                }
            }
        }
        if (!ofAll(first, f, m) && !ofAll(second, g, m)) {
            return new int[] {0, 1};
        }
        if (ofAll(third, new int[] {s, p}, p) && !ofAll(first, f, p)) {
            return new int[] {0, 2};
        }
        if (ofAll(third, new int[] {s, p}, s) && !ofAll(second, g, s)) {
            return new int[] {0, 3};
        }
        boolean firstDenies = first == 1 || first == 3;
        boolean secondDenies = second == 1 || second == 3;
        boolean thirdDenies = third == 1 || third == 3;
        if (firstDenies && secondDenies) {
            return new int[] {0, 4};
        }
        return new int[] {0, (firstDenies || secondDenies) != thirdDenies ? 5 : 6};
    }

    private static boolean ofAll(int form, int[] terms, int term) {
        boolean[] x = {true, true, false, false};
        boolean[] y = {false, true, false, true};
        return terms[0] == term && x[form] || terms[1] == term && y[form];
    }

    int mood(int first, int second, int third, int figure) {
        if (Math.min(first, Math.min(second, third)) < 0 || Math.max(first, Math.max(second, third)) > 3
            || figure < 1 || figure > 4) {
            return -1;
        }
        int[] verdict = verdict(first, second, third, figure);
        row = Arrays.copyOfRange(verdict, 1, verdict.length);
        return verdict[0];
    }

    int figure(int figure) {
        if (figure < 1 || figure > 4) {
            return -1;
        }
        int[] counts = new int[3];
        for (int first = 0; first < 4; first++) {
            for (int second = 0; second < 4; second++) {
                for (int third = 0; third < 4; third++) {
                    counts[verdict(first, second, third, figure)[0]]++;
                }
            }
        }
        row = new int[] {counts[1]};
        return counts[2];
    }

    int forms(int x, int y) {
        if (!isTerm(x) || !isTerm(y)) {
            return -1;
        }
        int bits = 0;
        for (int form = 0; form < 4; form++) {
            bits |= follows(active(), 576 * form + 24 * x + y) ? 1 << form : 0;
        }
        row = new int[] {countBoth(x, y), countBoth(x, y ^ 1)};
        return bits;
    }

    int allow(int moods) {
        if (moods < 0 || moods > ALL_MOODS) {
            return -1;
        }
        int before = allowed;
        allowed = moods;
        return before;
    }

    private boolean livingKind(int term) {
        return term % 2 == 0 && (living & 1 << term / 2) != 0;
    }

    /** The code that a mood proves, -2: nothing; with whether the kind that it needs lives. */
    private int prove(int mood, int code, int other, boolean ifAlive) {
        int form = code / 576;
        int x = code % 576 / 24;
        int y = code % 24;
        if (mood == 19) {
            return form == 1 || form == 2 ? 576 * form + 24 * y + x : -2;
        }
        if (mood == 20) {
            int[] forms = {1, 0, 3, 2};
            return 576 * forms[form] + 24 * x + (y % 2 == 0 ? y + 1 : y - 1);
        }
        if (mood == 21) {
            if (ifAlive && !livingKind(x)) {
                return -2;
            }
            return form == 0 ? 1152 + 24 * x + y : form == 1 ? 1728 + 24 * x + y : -2;
        }
        String name = MOODS[mood];
        if (form != "AEIO".indexOf(name.charAt(0)) || other / 576 != "AEIO".indexOf(name.charAt(1))) {
            return -2;
        }
        int u = other % 576 / 24;
        int v = other % 24;
        char figure = name.charAt(3);
        int m = figure == '1' || figure == '3' ? x : y;
        int p = figure == '1' || figure == '3' ? y : x;
        int n = figure == '1' || figure == '2' ? v : u;
        int s = figure == '1' || figure == '2' ? u : v;
        if (m != n) {
            return -2;
        }
        if (ifAlive && name.length() == 5 && !livingKind(name.charAt(4) == 'm' ? m : p)) {
            return -2;
        }
        return 576 * "AEIO".indexOf(name.charAt(2)) + 24 * s + p;
    }

    int step(int mood, int code, int other) {
        if (mood < 0 || mood > 21 || !isCode(code) || mood < 19 && !isCode(other) || mood >= 19 && other != -1) {
            return -1;
        }
        return prove(mood, code, other, true);
    }

    private int[] costs;
    private String costsFor = "";

    /** Each proof made shorter as long as one can be; a mood's premises by all s, m, p. */
    private int[] costs() {
        String now = codes(active()) + " " + living + " " + allowed;
        if (now.equals(costsFor)) {
            return costs;
        }
        costsFor = now;
        costs = new int[2304];
        Arrays.fill(costs, 1000000);
        for (int code : codes(active())) {
            costs[code] = 0;
        }
        boolean shorter = true;
        while (shorter) {
            shorter = false;
            for (int mood = 0; mood < 22; mood++) {
                if ((allowed & 1 << mood) != 0) {
                    shorter |= mood < 19 ? shortenByTwo(mood) : shortenByOne(mood);
                }
            }
        }
        return costs;
    }

    private boolean shortenByOne(int mood) {
        boolean shorter = false;
        for (int code = 0; code < 2304; code++) {
            int made = costs[code] < 1000000 ? prove(mood, code, -1, true) : -2;
            if (made >= 0 && costs[code] + 1 < costs[made]) {
                costs[made] = costs[code] + 1;
                shorter = true;
            }
        }
        return shorter;
    }

    private int[] pair(int mood, int s, int m, int p) {
        String name = MOODS[mood];
        int first = 576 * "AEIO".indexOf(name.charAt(0));
        int second = 576 * "AEIO".indexOf(name.charAt(1));
        switch (name.charAt(3)) {
            case '1':
                return new int[] {first + 24 * m + p, second + 24 * s + m};
            case '2':
                return new int[] {first + 24 * p + m, second + 24 * s + m};
            case '3':
                return new int[] {first + 24 * m + p, second + 24 * m + s};
            default:
                return new int[] {first + 24 * p + m, second + 24 * m + s};
        }
    }

    private boolean shortenByTwo(int mood) {
        boolean shorter = false;
        for (int m = 0; m < 24; m++) {
            for (int p = 0; p < 24; p++) {
                if (costs[pair(mood, 0, m, p)[0]] >= 1000000) {
                    continue;
                }
                for (int s = 0; s < 24; s++) {
                    int[] pair = pair(mood, s, m, p);
                    int sum = costs[pair[0]] + costs[pair[1]] + 1;
                    int made = sum < 1000000 ? prove(mood, pair[0], pair[1], true) : -2;
                    if (made >= 0 && sum < costs[made]) {
                        costs[made] = sum;
                        shorter = true;
                    }
                }
            }
        }
        return shorter;
    }

    private Proof last(int code) {
        int[] costs = costs();
        for (int mood = 0; mood < 22; mood++) {
            if ((allowed & 1 << mood) == 0) {
                continue;
            }
            Proof best = null;
            for (int first = 0; first < 2304; first++) {
                if (costs[first] >= costs[code] || best != null) {
                    continue;
                }
                if (mood >= 19) {
                    if (prove(mood, first, -1, true) == code && costs[first] + 1 == costs[code]) {
                        best = new Proof();
                        best.mood = mood;
                        best.first = first;
                        best.second = -1;
                    }
                    continue;
                }
                for (int second = 0; second < 2304 && best == null; second++) {
                    if (costs[first] + costs[second] + 1 == costs[code] && prove(mood, first, second, true) == code) {
                        best = new Proof();
                        best.mood = mood;
                        best.first = first;
                        best.second = second;
                    }
                }
            }
            if (best != null) {
                return best;
            }
        }
        throw new IllegalStateException();
    }

    int proof(int code) {
        if (!isCode(code)) {
            return -1;
        }
        int steps = costs()[code];
        if (steps >= 1000000) {
            return -2;
        }
        if (steps == 0) {
            row = new int[] {-1, -1, -1};
            return 0;
        }
        Proof last = last(code);
        row = new int[] {last.mood, last.first, last.second};
        return steps;
    }

    /** Bits of sayings, bits of moods, depth. */
    private int[] tree(int code, Map<Integer, int[]> seen) {
        int[] answer = seen.get(code);
        if (answer != null) {
            return answer;
        }
        answer = new int[3];
        if (costs()[code] == 0) {
            for (int i = said.size() - 1; i >= 0; i--) {
                if (!said.get(i).withdrawn && said.get(i).code() == code) {
                    answer[0] = 1 << i;
                }
            }
        } else {
            Proof last = last(code);
            answer[1] = 1 << last.mood;
            for (int premise : last.second < 0 ? new int[] {last.first} : new int[] {last.first, last.second}) {
                int[] below = tree(premise, seen);
                answer[0] |= below[0];
                answer[1] |= below[1];
                answer[2] = Math.max(answer[2], below[2] + 1);
            }
        }
        seen.put(code, answer);
        return answer;
    }

    int rests(int code) {
        if (!isCode(code)) {
            return -1;
        }
        if (costs()[code] >= 1000000) {
            return -2;
        }
        int[] tree = tree(code, new HashMap<>());
        row = new int[] {tree[1], tree[2]};
        return tree[0];
    }

    int proved() {
        int count = 0;
        int most = 0;
        for (int cost : costs()) {
            if (cost < 1000000) {
                count++;
                most = Math.max(most, cost);
            }
        }
        row = new int[] {most};
        return count;
    }

    int gap() {
        int bits = 0;
        for (int i = 0; i < wanted.size(); i++) {
            if (follows(active(), wanted.get(i)) && costs()[wanted.get(i)] >= 1000000) {
                bits |= 1 << i;
            }
        }
        return bits;
    }

    int plead() {
        String signs = text.toString();
        text.setLength(0);
        int place = firstWrong(PLEAS, signs);
        if (place >= 0) {
            return -1 - place;
        }
        List<Pleaded> all = new ArrayList<>(steps);
        int k = 0;
        for (String line : signs.isEmpty() ? new String[0] : signs.split(";")) {
            Matcher m = Pattern.compile("(\\d):(\\d+)(?:\\+(\\d+))?([AEIO])([-a-l]+)").matcher(line);
            if (!m.matches()) {
                throw new IllegalStateException(line);
            }
            Pleaded step = new Pleaded();
            step.lawyer = Integer.parseInt(m.group(1));
            step.first = Integer.parseInt(m.group(2));
            step.second = m.group(3) == null ? -1 : Integer.parseInt(m.group(3));
            int[] xy = terms(m.group(5));
            step.code = 576 * "AEIO".indexOf(m.group(4)) + 24 * xy[0] + xy[1];
            int why = why(step, all);
            if (why != 0) {
                return -100 - 10 * k - why;
            }
            all.add(step);
            k++;
        }
        steps.clear();
        steps.addAll(all);
        return k;
    }

    private int codeAt(int number, List<Pleaded> all) {
        if (number < 16) {
            return number < said.size() && !said.get(number).withdrawn ? said.get(number).code() : -1;
        }
        return number - 16 < all.size() ? all.get(number - 16).code : -1;
    }

    private int why(Pleaded step, List<Pleaded> all) {
        int a = codeAt(step.first, all);
        int b = step.second < 0 ? -1 : codeAt(step.second, all);
        if (a < 0 || step.second >= 0 && b < 0) {
            return 1;
        }
        if (all.size() >= 24) {
            return 2;
        }
        int terms = step.code % 576;
        boolean termsFit = false;
        boolean some = false;
        boolean someAllowed = false;
        // By any form of premises of these terms the moods' conclusions have the terms that a figure allows.
        int[][] orders = step.second < 0 ? new int[][] {{a, -1}} : new int[][] {{a, b}, {b, a}};
        for (int[] order : orders) {
            int ax = order[0] % 576 / 24;
            int ay = order[0] % 24;
            if (order[1] < 0) {
                termsFit |= terms == 24 * ay + ax || terms == 24 * ax + (ay ^ 1) || terms == 24 * ax + ay;
                continue;
            }
            int bx = order[1] % 576 / 24;
            int by = order[1] % 24;
            termsFit |= ax == by && terms == 24 * bx + ay;
            termsFit |= ay == by && terms == 24 * bx + ax;
            termsFit |= ax == bx && terms == 24 * by + ay;
            termsFit |= ay == bx && terms == 24 * by + ax;
        }
        for (int mood = 0; mood < 22; mood++) {
            for (int[] order : orders) {
                if (mood < 19 != order[1] >= 0 || prove(mood, order[0], order[1], false) != step.code) {
                    continue;
                }
                some = true;
                boolean isAllowed = (allowed & 1 << mood) != 0;
                someAllowed |= isAllowed;
                if (isAllowed && prove(mood, order[0], order[1], true) == step.code) {
                    step.mood = mood;
                    return 0;
                }
            }
        }
        return !termsFit ? 3 : !some ? 4 : !someAllowed ? 5 : 6;
    }

    int pleaded(int step, int what) {
        if (step < 0 || step >= steps.size() || what < 0 || what > 4) {
            throw new NoSuchElementException();
        }
        Pleaded p = steps.get(step);
        int[] all = {p.code, p.lawyer, p.first, p.second, p.mood};
        return all[what];
    }

    private boolean stands(int number) {
        if (number < 0) {
            return true;
        }
        if (number < 16) {
            return !said.get(number).withdrawn;
        }
        return stands(steps.get(number - 16).first) && stands(steps.get(number - 16).second);
    }

    int stands() {
        int bits = 0;
        for (int i = 0; i < steps.size(); i++) {
            bits |= stands(16 + i) ? 1 << i : 0;
        }
        return bits;
    }

    int marks(int lawyer) {
        if (lawyer < 0 || lawyer > 3) {
            return -1;
        }
        int count = 0;
        int isWanted = 0;
        int again = 0;
        for (int i = 0; i < steps.size(); i++) {
            if (steps.get(i).lawyer != lawyer || !stands(16 + i)) {
                continue;
            }
            int code = steps.get(i).code;
            TreeSet<Integer> ahead = new TreeSet<>();
            for (Said s : said) {
                ahead.add(s.code());
            }
            for (int j = 0; j < i; j++) {
                ahead.add(steps.get(j).code);
            }
            count++;
            isWanted += wanted.contains(code) ? 1 : 0;
            again += ahead.contains(code) ? 1 : 0;
        }
        row = new int[] {isWanted, again};
        return count;
    }

    int strike() {
        if (steps.isEmpty()) {
            return -1;
        }
        steps.remove(steps.size() - 1);
        return steps.size();
    }

    boolean keep(int i) {
        if (i < 0 || i > 2) {
            return false;
        }
        Kept k = new Kept();
        k.living = living;
        k.allowed = allowed;
        for (Said s : said) {
            k.flags.add(new boolean[] {s.doubted, s.withdrawn});
        }
        kept[i] = k;
        return true;
    }

    boolean again(int i) {
        if (i < 0 || i > 2 || kept[i] == null) {
            return false;
        }
        living = kept[i].living;
        allowed = kept[i].allowed;
        for (int j = 0; j < kept[i].flags.size(); j++) {
            said.get(j).doubted = kept[i].flags.get(j)[0];
            said.get(j).withdrawn = kept[i].flags.get(j)[1];
        }
        return true;
    }

    int count(int what) {
        int[] all = {said.size(), wanted.size(), living, allowed, steps.size(), active(), row.length, text.length()};
        return what < 0 || what >= all.length ? -1 : all[what];
    }

    // ---- random runs

    private static final String[] CALLS = {"told", "plead", "junk", "end", "saying", "mark", "lives", "want", "forget", "sheet",
        "holds", "follows", "decided", "from", "needs", "fewest", "idle", "alike", "clash", "liars", "truth", "trusts", "convicts",
        "all", "empty", "chain", "sorts", "sort", "both", "town", "refute", "judge", "mood", "figure", "forms", "allow", "step",
        "proof", "rests", "proved", "gap", "pleaded", "stands", "marks", "strike", "keep", "again", "count"};

    private static final class Run {
        /** Sayings that lead from kind to kind; many sorts that must be; many pleas. */
        static final int CHAINS = 1;
        static final int TOWNS = 2;
        static final int PLEAS = 3;
        final Random random;
        final SomeAreNoneIs x = new SomeAreNoneIs();
        final AgainstOracle o = new AgainstOracle();
        final List<String> log = new ArrayList<>();
        final int kinds;
        final int most;
        final int nots;
        final int mode;
        int calls = 0;

        Run(long seed) {
            random = new Random(seed);
            mode = random.nextInt(5);
            kinds = mode == CHAINS || mode == TOWNS ? 5 + random.nextInt(8) : 2 + random.nextInt(11);
            most = random.nextInt(4) == 0 ? 16 : 4 + random.nextInt(7);
            nots = 1 + random.nextInt(4);
        }

        int below(int n) {
            return random.nextInt(n);
        }

        int term() {
            return below(40) == 0 ? below(2) * 25 - 1 : 2 * below(kinds) + (below(nots) == 0 && nots > 1 ? 1 : 0);
        }

        int code() {
            if (below(40) == 0) {
                return below(2) * 2305 - 1;
            }
            if (below(4) == 0 && !o.said.isEmpty()) {
                return o.said.get(below(o.said.size())).code();
            }
            if (below(4) == 0 && !o.said.isEmpty()) {
                return someProved();
            }
            return 576 * below(4) + 24 * (Math.max(0, term()) % 24) + Math.max(0, term()) % 24;
        }

        int someProved() {
            int[] costs = o.costs();
            int code = below(2304);
            for (int i = 0; i < 2304 && (costs[code] == 0 || costs[code] == 1000000); i++) {
                code = (code + 1) % 2304;
            }
            return code;
        }

        String termText() {
            int t = Math.max(0, term()) % 24;
            return (t % 2 == 1 ? "-" : "") + (char) ('a' + t / 2);
        }

        String sayingText() {
            if (mode == CHAINS && below(6) != 0) {
                int kind = below(kinds - 1);
                String not = below(6) == 0 ? "-" : "";
                return "" + (char) ('A' + 4 * below(9) / 8) + (char) ('a' + kind) + not + (char) ('a' + kind + 1);
            }
            if (mode == TOWNS && below(8) != 0) {
                int half = (kinds + 1) / 2;
                char low = (char) ('a' + below(half));
                char high = (char) ('a' + half + below(kinds - half));
                return below(2) == 0 ? "E" + low + (char) ('a' + below(half)) : "I" + low + (below(4) == 0 ? "-" : "") + high;
            }
            return "" + "AAAEEIO".charAt(below(7)) + termText() + termText();
        }

        String spoil(String text) {
            if (below(8) != 0 || text.isEmpty()) {
                return text;
            }
            int i = below(text.length());
            String signs = "AEIOabl-@?;:+0123789m X";
            char other = signs.charAt(below(signs.length()));
            switch (below(3)) {
                case 0:
                    return text.substring(0, i) + other + text.substring(i + 1);
                case 1:
                    return text.substring(0, i) + text.substring(i + 1);
                default:
                    return text.substring(0, i);
            }
        }

        String toldText() {
            StringBuilder text = new StringBuilder();
            int lines = below(12) == 0 ? 13 : below(5);
            if (o.said.size() + lines > most && below(6) != 0) {
                lines = Math.max(0, most - o.said.size());
            }
            for (int i = 0; i < lines; i++) {
                text.append(i == 0 ? "" : ";").append(sayingText()).append('@').append(below(8)).append(below(4) == 0 ? "?" : "");
            }
            return spoil(text.toString());
        }

        /** Mostly steps that follow by some mood from what there is. */
        String pleadText() {
            StringBuilder text = new StringBuilder();
            int lines = below(8) == 0 ? 11 : 1 + below(3);
            List<Integer> made = new ArrayList<>();
            for (int i = 0; i < lines; i++) {
                int first = number(made.size());
                int second = number(made.size());
                boolean one = below(3) == 0;
                int code = -1;
                for (int tries = 0; tries < 200 && code < 0; tries++) {
                    first = number(made.size());
                    second = number(made.size());
                    int mood = one ? 19 + below(3) : below(19);
                    int a = codeOf(first, made);
                    int b = one ? -1 : codeOf(second, made);
                    code = a >= 0 && (one || b >= 0) ? o.prove(mood, a, b, below(6) != 0) : -2;
                    if (code >= 0 && !one && below(2) == 0) {
                        int swap = first;
                        first = second;
                        second = swap;
                    }
                }
                if (code < 0 && i > 0 && below(5) != 0) {
                    break;
                }
                if (code < 0) {
                    code = code();
                }
                if (below(30) == 0) {
                    code = (Math.max(0, code) + 576) % 2304;
                }
                if (below(30) == 0) {
                    first = below(100);
                }
                made.add(Math.max(0, code) % 2304);
                text.append(i == 0 ? "" : ";").append(below(4)).append(':').append(numberText(first));
                if (!one) {
                    text.append('+').append(numberText(second));
                }
                text.append(codeText(Math.max(0, code) % 2304));
            }
            return spoil(text.toString());
        }

        String numberText(int n) {
            return n < 10 && below(5) == 0 ? "0" + n : "" + n;
        }

        int number(int made) {
            int steps = o.steps.size() + made;
            if (steps > 0 && below(3) == 0) {
                return 16 + below(steps);
            }
            return o.said.isEmpty() ? below(16) : below(o.said.size());
        }

        int codeOf(int number, List<Integer> made) {
            int step = number - 16 - o.steps.size();
            return step >= 0 && step < made.size() ? made.get(step) : o.codeAt(number, o.steps);
        }

        static String codeText(int code) {
            int x = code % 576 / 24;
            int y = code % 24;
            return "" + "AEIO".charAt(code / 576) + (x % 2 == 1 ? "-" : "") + (char) ('a' + x / 2) + (y % 2 == 1 ? "-" : "")
                + (char) ('a' + y / 2);
        }

        void write(String text) {
            String signs = text.length() > 80 ? text.substring(0, 80) : text;
            for (int i = 0; i < signs.length(); i += 4) {
                int v = 0;
                for (int j = i; j < i + 4; j++) {
                    v = v << 8 | (j < signs.length() ? signs.charAt(j) : 0);
                }
                same("sign(" + v + ")", o.sign(v), x.sign(v));
            }
            same("end(" + signs.length() + ")", o.end(signs.length()), x.end(signs.length()));
        }

        void same(String call, boolean want, boolean got) {
            same(call, want ? 1 : 0, got ? 1 : 0);
        }

        void same(String call, int want, int got) {
            calls += call.startsWith("sign") || call.startsWith("end") ? 0 : 1;
            log.add(call + " = " + want);
            if (want != got) {
                fail(call + " answered " + got + ", due is " + want);
            }
            if (x.count(6) != o.row.length) {
                fail(call + ": the ROW has " + x.count(6) + ", due are " + Arrays.toString(o.row));
                return;
            }
            for (int i = 0; i < o.row.length; i++) {
                if (x.row(i) != o.row[i]) {
                    fail(call + ": row(" + i + ") is " + x.row(i) + ", due are " + Arrays.toString(o.row));
                }
            }
        }

        void fail(String what) {
            if (wrong < 5) {
                System.out.println(what + ", behind " + log);
            }
            wrong++;
        }

        int maybe(int n) {
            return below(12) == 0 ? below(2) * (n + 1) - 1 : below(n);
        }

        /** False if it is none of these. */
        boolean theCase(String call) {
            int i = maybe(Math.max(1, o.said.size()));
            boolean is = below(2) == 0;
            switch (call) {
                case "told":
                    String text = toldText();
                    write(text);
                    same("told() of " + text, o.told(), x.told());
                    return true;
                case "plead":
                    String plea = pleadText();
                    write(plea);
                    same("plead() of " + plea, o.plead(), x.plead());
                    return true;
                case "junk":
                    int v = random.nextInt();
                    same("sign(" + v + ")", o.sign(v), x.sign(v));
                    return true;
                case "end":
                    int n = below(84) - 2;
                    same("end(" + n + ")", o.end(n), x.end(n));
                    return true;
                case "saying":
                    int what = maybe(4);
                    same("saying(" + i + ", " + what + ")", answer(() -> o.saying(i, what)), answer(() -> x.saying(i, what)));
                    return true;
                case "mark":
                    int flag = maybe(2);
                    boolean mostly = flag == 1 ? below(3) == 0 : is;
                    same("mark(" + i + ", " + flag + ", " + mostly + ")", o.mark(i, flag, mostly), x.mark(i, flag, mostly));
                    return true;
                case "lives":
                    int kind = maybe(kinds);
                    boolean alive = below(3) == 0;
                    same("lives(" + kind + ", " + alive + ")", o.lives(kind, alive), x.lives(kind, alive));
                    return true;
                case "want":
                    int code = code();
                    same("want(" + code + ")", o.want(code), x.want(code));
                    return true;
                case "forget":
                    same("forget()", o.forget(), x.forget());
                    return true;
                case "sheet":
                    int type = maybe(4);
                    int size = below(15) - 1;
                    int f = below(3) == 0 ? random.nextInt() : below(3) * 128 - 130;
                    int step = below(3) == 0 ? random.nextInt() : below(60) - 30;
                    same("sheet(" + type + ", " + size + ", " + f + ", " + step + ")", o.sheet(type, size, f, step),
                        x.sheet(type, size, f, step));
                    return true;
                default:
                    return false;
            }
        }

        boolean whatFollows(String call) {
            int code = code();
            int other = code();
            switch (call) {
                case "holds":
                    same("holds()", o.holds(), x.holds());
                    return true;
                case "follows":
                    same("follows(" + code + ")", o.follows(code), x.follows(code));
                    return true;
                case "decided":
                    same("decided(" + code + ")", o.decided(code), x.decided(code));
                    return true;
                case "from":
                    int bits = below(12) == 0 ? random.nextInt() : below(1 << o.said.size());
                    same("from(" + bits + ", " + code + ")", o.from(bits, code), x.from(bits, code));
                    return true;
                case "needs":
                    same("needs(" + code + ")", o.needs(code), x.needs(code));
                    return true;
                case "fewest":
                    if (Integer.bitCount(o.active()) <= 10) {
                        same("fewest()", o.fewest(), x.fewest());
                    }
                    return true;
                case "idle":
                    same("idle()", o.idle(), x.idle());
                    return true;
                case "alike":
                    same("alike(" + code + ", " + other + ")", o.alike(code, other), x.alike(code, other));
                    return true;
                case "clash":
                    if (Integer.bitCount(o.active()) <= 10) {
                        same("clash()", o.clash(), x.clash());
                    }
                    return true;
                case "liars":
                    same("liars()", o.liars(), x.liars());
                    return true;
                case "truth":
                    int witness = maybe(8);
                    same("truth(" + witness + ")", o.truth(witness), x.truth(witness));
                    return true;
                case "trusts":
                    int witnesses = maybe(256);
                    same("trusts(" + witnesses + ", " + code + ")", o.trusts(witnesses, code), x.trusts(witnesses, code));
                    return true;
                case "convicts":
                    same("convicts(" + code + ")", o.convicts(code), x.convicts(code));
                    return true;
                default:
                    return false;
            }
        }

        boolean termsAndTowns(String call) {
            int t = term();
            int u = term();
            int code = code();
            switch (call) {
                case "all":
                    same("all(" + t + ")", o.all(t), x.all(t));
                    return true;
                case "empty":
                    same("empty()", o.empty(), x.empty());
                    return true;
                case "chain":
                    same("chain(" + t + ", " + u + ")", o.chain(t, u), x.chain(t, u));
                    return true;
                case "sorts":
                    same("sorts()", o.sorts(), x.sorts());
                    return true;
                case "sort":
                    int k = maybe(4096) % (1 + below(4096));
                    same("sort(" + k + ")", o.sort(k), x.sort(k));
                    return true;
                case "both":
                    same("both(" + t + ", " + u + ")", o.both(t, u), x.both(t, u));
                    return true;
                case "town":
                    same("town()", o.town(), x.town());
                    return true;
                case "refute":
                    same("refute(" + code + ")", o.refute(code), x.refute(code));
                    return true;
                case "judge":
                    int[] s = new int[3];
                    for (int i = 0; i < 3; i++) {
                        s[i] = below(3) == 0 ? maybe(4097) : below(3) == 0 ? 4096 : below(1 << kinds);
                    }
                    if (below(2) == 0 && o.row.length > 0 && o.row.length < 4) {
                        for (int i = 0; i < 3; i++) {
                            s[i] = i < o.row.length ? o.row[i] : 4096;
                        }
                    }
                    same("judge(" + s[0] + ", " + s[1] + ", " + s[2] + ")", o.judge(s[0], s[1], s[2]), x.judge(s[0], s[1], s[2]));
                    return true;
                default:
                    return false;
            }
        }

        boolean moods(String call) {
            int code = code();
            switch (call) {
                case "mood":
                    int[] m = {below(4), below(4), below(4), 1 + below(4)};
                    if (below(10) == 0) {
                        m[below(4)] = below(2) * 6 - 1;
                    }
                    same("mood(" + Arrays.toString(m) + ")", o.mood(m[0], m[1], m[2], m[3]), x.mood(m[0], m[1], m[2], m[3]));
                    return true;
                case "figure":
                    int figure = below(6);
                    same("figure(" + figure + ")", o.figure(figure), x.figure(figure));
                    return true;
                case "forms":
                    int t = term();
                    int u = term();
                    same("forms(" + t + ", " + u + ")", o.forms(t, u), x.forms(t, u));
                    return true;
                case "allow":
                    int moods = below(8) == 0 ? random.nextInt() : below(3) == 0 ? ALL_MOODS
                        : ALL_MOODS & (random.nextInt() | random.nextInt());
                    same("allow(" + moods + ")", o.allow(moods), x.allow(moods));
                    return true;
                case "step":
                    int mood = maybe(22);
                    int other = mood >= 19 && below(9) != 0 ? -1 : code();
                    if (mood >= 0 && mood < 19 && below(4) != 0) {
                        int[] pair = o.pair(mood, Math.floorMod(term(), 24), Math.floorMod(term(), 24), Math.floorMod(term(), 24));
                        code = pair[0];
                        other = pair[1];
                    }
                    same("step(" + mood + ", " + code + ", " + other + ")", o.step(mood, code, other), x.step(mood, code, other));
                    return true;
                case "proof":
                    same("proof(" + code + ")", o.proof(code), x.proof(code));
                    return true;
                case "rests":
                    same("rests(" + code + ")", o.rests(code), x.rests(code));
                    return true;
                case "proved":
                    same("proved()", o.proved(), x.proved());
                    return true;
                case "gap":
                    same("gap()", o.gap(), x.gap());
                    return true;
                default:
                    return false;
            }
        }

        void lawyersAndKept(String call) {
            int i = maybe(3);
            switch (call) {
                case "pleaded":
                    int step = maybe(Math.max(1, o.steps.size()));
                    int what = maybe(5);
                    same("pleaded(" + step + ", " + what + ")", answer(() -> o.pleaded(step, what)), answer(() -> x.pleaded(step, what)));
                    break;
                case "stands":
                    same("stands()", o.stands(), x.stands());
                    break;
                case "marks":
                    int lawyer = maybe(4);
                    same("marks(" + lawyer + ")", o.marks(lawyer), x.marks(lawyer));
                    break;
                case "strike":
                    same("strike()", o.strike(), x.strike());
                    break;
                case "keep":
                    same("keep(" + i + ")", o.keep(i), x.keep(i));
                    break;
                case "again":
                    same("again(" + i + ")", o.again(i), x.again(i));
                    break;
                default:
                    int which = maybe(8);
                    same("count(" + which + ")", o.count(which), x.count(which));
                    break;
            }
        }

        private interface Call {
            int answer();
        }

        static int answer(Call call) {
            try {
                return call.answer();
            } catch (NoSuchElementException e) {
                return -999;
            }
        }

        void go(int length) {
            theCase("told");
            theCase("told");
            while (calls < length && wrong < 5) {
                String call = CALLS[below(CALLS.length)];
                if ((mode == PLEAS || mode == CHAINS) && below(3) != 0 && "strike mark allow again".contains(call)) {
                    continue;
                }
                if (!theCase(call) && !whatFollows(call) && !termsAndTowns(call) && !moods(call)) {
                    lawyersAndKept(call);
                }
                if (below(9) == 0) {
                    theCase("told");
                }
                if (below(mode == PLEAS ? 2 : 12) == 0) {
                    theCase("plead");
                }
            }
        }
    }

    public static void main(String[] args) {
        int runs = args.length > 0 ? Integer.parseInt(args[0]) : 30;
        long seed = args.length > 1 ? Long.parseLong(args[1]) : 1;
        int calls = 0;
        for (int i = 0; i < runs && wrong < 5; i++) {
            Run run = new Run(seed + i);
            run.go(300);
            calls += run.calls;
        }
        for (int key = 0; key < 256; key++) {
            AgainstOracle o = new AgainstOracle();
            SomeAreNoneIs x = new SomeAreNoneIs();
            int want = o.mood(key >> 6, key >> 4 & 3, key >> 2 & 3, 1 + (key & 3));
            int got = x.mood(key >> 6, key >> 4 & 3, key >> 2 & 3, 1 + (key & 3));
            if (want != got || o.row.length != x.count(6) || o.row.length > 0 && o.row[0] != x.row(0)) {
                System.out.println("mood " + key + " answered " + got + ", due is " + want + " " + Arrays.toString(o.row));
                wrong++;
            }
        }
        System.out.println(calls + " calls of " + runs + " runs, " + wrong + " answers are not as due");
        if (wrong != 0) {
            System.exit(1);
        }
    }
}
