import java.math.BigInteger;
import java.util.ArrayList;
import java.util.List;
import java.util.function.Function;
import java.util.function.Predicate;

/**
 * The document once more, in the plainest way there is: all rows, sets and ways are tried one by
 * one, nothing is shared with BeanTrug. ModelTest compares the two call by call.
 */
final class Model {
    /** A fault of a text: thrown where it is met. */
    private static final class Fault extends Exception {
        private static final long serialVersionUID = 1;
        final int number;

        Fault(int place, int kind) {
            number = 1 + 8 * place + kind;
        }
    }

    private static final class Sorrow implements Cloneable {
        int weight;
        int time;
        int deep;
        int where; // 0 in, 1 let be, 2 late
        int at = -1;
        List<Integer> under = new ArrayList<>();

        Sorrow copy() {
            Sorrow s = new Sorrow();
            s.weight = weight;
            s.time = time;
            s.deep = deep;
            s.where = where;
            s.at = at;
            s.under = new ArrayList<>(under);
            return s;
        }
    }

    private static final class World {
        int dusk;
        int earth;
        int minute;
        int step;
        List<Sorrow> sorrows = new ArrayList<>();
        List<Integer> strong = new ArrayList<>();

        World copy() {
            World w = new World();
            w.dusk = dusk;
            w.earth = earth;
            w.minute = minute;
            w.step = step;
            for (Sorrow s : sorrows) {
                w.sorrows.add(s.copy());
            }
            w.strong = strong;
            return w;
        }

        boolean in(int i) {
            return i >= 0 && i < sorrows.size() && sorrows.get(i).where == 0;
        }

        boolean loose(int i) {
            return in(i) && sorrows.get(i).under.stream().noneMatch(this::in);
        }

        List<Integer> allIn() {
            List<Integer> all = new ArrayList<>();
            for (int i = 0; i < sorrows.size(); i++) {
                if (in(i)) {
                    all.add(i);
                }
            }
            return all;
        }

        List<Integer> allLoose() {
            List<Integer> all = allIn();
            all.removeIf(i -> !loose(i));
            return all;
        }

        int load() {
            return earth + allIn().stream().mapToInt(i -> sorrows.get(i).weight).sum();
        }

        int rest() {
            return sorrows.stream().filter(s -> s.where == 1).mapToInt(s -> s.deep).sum();
        }

        void lift(int i) {
            Sorrow s = sorrows.get(i);
            minute = Math.min(9999, minute + s.time);
            s.where = minute > dusk ? 2 : 1;
            s.at = minute;
        }
    }

    private record Seen(World w, int sorrow) {
        Sorrow own() {
            return w.sorrows.get(sorrow);
        }
    }

    private record Clause(Function<Seen, Long> sum, Predicate<Seen> test) {
    }

    private record Note(int n, int sorrow) {
    }

    private record Image(World told, World now, int force, int x, List<Note> notes) {
    }

    private byte[] tape = new byte[0];
    private World told;
    private World now;
    private final List<List<Clause>> rules = new ArrayList<>();
    private int force = -1;
    private int x = 0;
    private List<Note> notes = new ArrayList<>();
    private final List<World> past = new ArrayList<>();
    private final Image[] images = new Image[4];

    // ---- the texts ----

    private final class Text {
        int p = 0;
        int depth = 0;
        int pieces = 0;

        void blanks() {
            while (p < tape.length && tape[p] == ' ') {
                p++;
            }
        }

        String word() {
            blanks();
            int q = p;
            while (q < tape.length && tape[q] >= 'a' && tape[q] <= 'z') {
                q++;
            }
            return new String(tape, p, q - p, java.nio.charset.StandardCharsets.ISO_8859_1);
        }

        String digits() {
            blanks();
            int q = p;
            while (q < tape.length && tape[q] >= '0' && tape[q] <= '9') {
                q++;
            }
            return new String(tape, p, q - p, java.nio.charset.StandardCharsets.ISO_8859_1);
        }

        boolean at(String sign) {
            blanks();
            for (int i = 0; i < sign.length(); i++) {
                if (p + i >= tape.length || tape[p + i] != sign.charAt(i)) {
                    return false;
                }
            }
            return true;
        }

        boolean accept(String sign) {
            if (at(sign)) {
                p += sign.length();
                return true;
            }
            return false;
        }

        boolean acceptWord(String which) {
            if (word().equals(which)) {
                p += which.length();
                return true;
            }
            return false;
        }

        int number(int least, int most, int but) throws Fault {
            String d = digits();
            if (d.isEmpty()) {
                throw new Fault(p, 0);
            }
            if (d.length() > 5) {
                throw new Fault(p, 1);
            }
            int n = Integer.parseInt(d);
            if (n < least || n > most || n == but) {
                throw new Fault(p, 1);
            }
            p += d.length();
            return n;
        }

        World trug() throws Fault {
            World w = new World();
            int clauses = 0;
            do {
                String what = word();
                int told = w.sorrows.size();
                if (!List.of("trug", "sorrow", "under", "carrier").contains(what)) {
                    throw new Fault(p, 0);
                }
                if (clauses == 40 || (clauses == 0 && !what.equals("trug")) || (clauses > 0 && what.equals("trug"))
                        || (what.equals("sorrow") && told == 8) || (what.equals("carrier") && w.strong.size() == 4)) {
                    throw new Fault(p, 4);
                }
                clauses++;
                p += what.length();
                switch (what) {
                    case "trug" -> {
                        w.dusk = number(1, 300, -9);
                        w.earth = number(0, 20, -9);
                    }
                    case "sorrow" -> {
                        Sorrow s = new Sorrow();
                        s.weight = number(1, 20, -9);
                        s.time = number(1, 40, -9);
                        s.deep = number(0, 30, -9);
                        w.sorrows.add(s);
                    }
                    case "under" -> {
                        int a = number(0, told - 1, -9);
                        int b = number(0, told - 1, a);
                        if (!w.sorrows.get(a).under.contains(b)) {
                            w.sorrows.get(a).under.add(b);
                        }
                    }
                    default -> w.strong.add(number(1, 60, -9));
                }
            } while (accept(";"));
            blanks();
            if (p < tape.length) {
                throw new Fault(p, 0);
            }
            return w;
        }

        List<Clause> rule() throws Fault {
            List<Clause> clauses = new ArrayList<>();
            do {
                if (!word().equals("lift")) {
                    throw new Fault(p, 0);
                }
                if (clauses.size() == 12) {
                    throw new Fault(p, 4);
                }
                p += 4;
                Function<Seen, Long> sum = sum();
                clauses.add(new Clause(sum, acceptWord("if") ? test() : s -> true));
            } while (accept(";"));
            blanks();
            if (p < tape.length) {
                throw new Fault(p, 0);
            }
            return clauses;
        }

        Predicate<Seen> test() throws Fault {
            Predicate<Seen> left = part();
            while (acceptWord("or")) {
                left = left.or(part());
            }
            return left;
        }

        Predicate<Seen> part() throws Fault {
            Predicate<Seen> left = fact();
            while (acceptWord("and")) {
                left = left.and(fact());
            }
            return left;
        }

        Predicate<Seen> fact() throws Fault {
            boolean not = word().equals("not");
            if (not || at("[")) {
                if (depth == 10) {
                    throw new Fault(p, 2);
                }
                depth++;
                p += not ? 3 : 1;
                Predicate<Seen> inner = not ? fact().negate() : test();
                if (!not && !accept("]")) {
                    throw new Fault(p, 0);
                }
                depth--;
                return inner;
            }
            Function<Seen, Long> a = sum();
            blanks();
            int where = p;
            String sign = null;
            for (String s : List.of("<=", ">=", "<", ">", "=")) {
                if (sign == null && accept(s)) {
                    sign = s;
                }
            }
            if (sign == null) {
                throw new Fault(where, 0);
            }
            if (++pieces > 60) {
                throw new Fault(where, 3);
            }
            Function<Seen, Long> b = sum();
            String which = sign;
            return s -> {
                int c = Long.compare(a.apply(s), b.apply(s));
                return which.contains("<") && c < 0 || which.contains(">") && c > 0 || which.contains("=") && c == 0;
            };
        }

        Function<Seen, Long> sum() throws Fault {
            Function<Seen, Long> left = term();
            while (at("+") || at("-")) {
                Function<Seen, Long> a = left;
                boolean plus = tape[p++] == '+';
                Function<Seen, Long> b = term();
                left = s -> round(big(a, s).add(plus ? big(b, s) : big(b, s).negate()));
            }
            return left;
        }

        Function<Seen, Long> term() throws Fault {
            Function<Seen, Long> left = value();
            while (at("*") || at("/") || at("%")) {
                Function<Seen, Long> a = left;
                char op = (char) tape[p++];
                Function<Seen, Long> b = value();
                left = s -> {
                    BigInteger m = big(a, s);
                    BigInteger n = big(b, s);
                    if (op == '*') {
                        return round(m.multiply(n));
                    }
                    if (n.signum() == 0) {
                        return 0L;
                    }
                    return round(op == '/' ? m.divide(n) : m.remainder(n));
                };
            }
            return left;
        }

        Function<Seen, Long> value() throws Fault {
            String d = digits();
            String name = word();
            int where = p;
            Function<Seen, Long> v = d.isEmpty() ? named(name) : null;
            if (d.isEmpty() && v == null) {
                throw new Fault(where, 0);
            }
            if (d.length() > 5) {
                throw new Fault(where, 1);
            }
            if (++pieces > 60) {
                throw new Fault(where, 3);
            }
            p += d.length() + name.length();
            return v != null ? v : s -> Long.parseLong(d);
        }

        Function<Seen, Long> named(String name) {
            return switch (name) {
                case "sorrow" -> s -> (long) s.sorrow();
                case "weight" -> s -> (long) s.own().weight;
                case "time" -> s -> (long) s.own().time;
                case "deep" -> s -> (long) s.own().deep;
                case "over" -> s -> s.w().allIn().stream()
                        .filter(i -> s.w().sorrows.get(i).under.contains(s.sorrow())).count();
                case "many" -> s -> (long) s.w().allIn().size();
                case "loose" -> s -> (long) s.w().allLoose().size();
                case "left" -> s -> (long) s.w().dusk - s.w().minute;
                case "load" -> s -> (long) s.w().load();
                case "rest" -> s -> (long) s.w().rest();
                case "minute" -> s -> (long) s.w().minute;
                case "step" -> s -> (long) s.w().step;
                default -> null;
            };
        }
    }

    private static BigInteger big(Function<Seen, Long> f, Seen s) {
        return BigInteger.valueOf(f.apply(s));
    }

    private static long round(BigInteger b) {
        return b.longValue();
    }

    // ---- going on ----

    private int goOn(World w, int rule) {
        int best = -1;
        if (rule < 0) {
            best = w.allLoose().isEmpty() ? -1 : w.allLoose().get(0);
        } else {
            long most = 0;
            for (int i : w.allLoose()) {
                Seen s = new Seen(w, i);
                long sum = 0;
                for (Clause c : rules.get(rule)) {
                    if (c.test().test(s)) {
                        sum = c.sum().apply(s);
                        break;
                    }
                }
                if (sum > most) {
                    most = sum;
                    best = i;
                }
            }
        }
        if (best < 0) {
            w.minute = Math.min(9999, w.minute + 1);
        } else {
            w.lift(best);
        }
        w.step++;
        return best;
    }

    private void keep() {
        past.add(now.copy());
        if (past.size() > 20) {
            past.remove(0);
        }
    }

    private static int bits(List<Integer> set) {
        return set.stream().mapToInt(i -> 1 << i).sum();
    }

    private boolean has(int sorrow) {
        return told != null && sorrow >= 0 && sorrow < now.sorrows.size();
    }

    private boolean in(int sorrow) {
        return has(sorrow) && now.in(sorrow);
    }

    // ---- the face ----

    int feed(int a, int b, int c, int d, int e) {
        if (tape.length + 20 > 400) {
            return -1;
        }
        java.nio.ByteBuffer more = java.nio.ByteBuffer.allocate(tape.length + 20);
        more.put(tape).putInt(a).putInt(b).putInt(c).putInt(d).putInt(e);
        tape = more.array();
        return tape.length;
    }

    int end(int n) {
        if (n < 0 || n > tape.length) {
            return -1;
        }
        tape = java.util.Arrays.copyOf(tape, n);
        return n;
    }

    int trug() {
        try {
            told = new Text().trug();
        } catch (Fault f) {
            return -2 - f.number;
        } finally {
            tape = new byte[0];
        }
        now = told.copy();
        notes = new ArrayList<>();
        past.clear();
        return now.sorrows.size();
    }

    int rule() {
        if (rules.size() == 6) {
            return -1;
        }
        try {
            rules.add(new Text().rule());
        } catch (Fault f) {
            return -2 - f.number;
        } finally {
            tape = new byte[0];
        }
        return rules.size() - 1;
    }

    int force(int rule) {
        if (rule < -1 || rule >= rules.size()) {
            return -2;
        }
        int was = force;
        force = rule;
        return was;
    }

    int sorrow(int sorrow, int what) {
        if (!has(sorrow) || what < 0 || what > 5) {
            return -2;
        }
        Sorrow s = now.sorrows.get(sorrow);
        return List.of(s.weight, s.time, s.deep, s.where, s.at, bits(s.under)).get(what);
    }

    int carrier(int carrier) {
        return told == null || carrier < 0 || carrier >= now.strong.size() ? -1 : now.strong.get(carrier);
    }

    int step() {
        if (told == null || now.step == 999) {
            return -1;
        }
        keep();
        int lifted = goOn(now, force);
        return lifted < 0 ? -2 : lifted;
    }

    int take(int sorrow) {
        if (!in(sorrow) || !now.loose(sorrow)) {
            return -1;
        }
        keep();
        now.lift(sorrow);
        return now.minute;
    }

    int await(int minutes) {
        if (told == null || minutes < 1 || minutes > 60 || now.minute + minutes > 9999) {
            return -1;
        }
        keep();
        now.minute += minutes;
        return now.minute;
    }

    int lay(int sorrow, int other) {
        if (!in(sorrow) || !in(other) || sorrow == other) {
            return -1;
        }
        keep();
        List<Integer> under = now.sorrows.get(sorrow).under;
        if (under.remove(Integer.valueOf(other))) {
            return 0;
        }
        under.add(other);
        return 1;
    }

    int lighten(int sorrow, int weight) {
        if (!in(sorrow) || weight < 1 || weight > 20 || now.sorrows.get(sorrow).weight == weight) {
            return -1;
        }
        keep();
        int was = now.sorrows.get(sorrow).weight;
        now.sorrows.get(sorrow).weight = weight;
        return was;
    }

    int undo() {
        if (past.isEmpty()) {
            return -1;
        }
        now = past.remove(past.size() - 1);
        return past.size();
    }

    int ahead(int n, int what) {
        if (told == null || n < 0 || n > 100 || what < 0 || what > 3) {
            return -1;
        }
        World w = now.copy();
        for (int i = 0; i < n; i++) {
            goOn(w, force);
        }
        return List.of(w.minute, w.rest(), w.load(), w.allIn().size()).get(what);
    }

    int when(int sorrow, int what) {
        if (!in(sorrow) || what < 0 || what > 1) {
            return -1;
        }
        World w = now.copy();
        for (int n = now.step; n < now.step + 100; n++) {
            goOn(w, force);
            if (!w.in(sorrow)) {
                return what == 0 ? n : w.minute;
            }
        }
        return -2;
    }

    int dusk(int what) {
        if (told == null || what < 0 || what > 2) {
            return -1;
        }
        World w = now.copy();
        int many = 0;
        int deep = 0;
        int last = -2;
        for (int i = 1; i <= 100; i++) {
            int before = w.rest();
            int s = goOn(w, force);
            if (s >= 0 && w.sorrows.get(s).where == 1) {
                many++;
                deep += w.rest() - before;
                last = s;
            }
        }
        return List.of(many, deep, last).get(what);
    }

    private List<Integer> bestRow;
    private int bestDeep;
    private int bestTime;

    private void tryRows(World w, List<Integer> row, int deep, int time) {
        if (bestRow == null || deep > bestDeep || deep == bestDeep && time < bestTime) {
            bestRow = List.copyOf(row);
            bestDeep = deep;
            bestTime = time;
        }
        for (int i : w.allLoose()) {
            World next = w.copy();
            next.lift(i);
            if (next.sorrows.get(i).where == 1) {
                row.add(i);
                tryRows(next, row, deep + next.sorrows.get(i).deep, time + next.sorrows.get(i).time);
                row.remove(row.size() - 1);
            }
        }
    }

    int order(int what) {
        if (told == null || what < -2 || what > 7) {
            return -3;
        }
        bestRow = null;
        tryRows(now, new ArrayList<>(), 0, 0);
        return what == -1 ? bestDeep : what == -2 ? bestTime : what < bestRow.size() ? bestRow.get(what) : -2;
    }

    private int longest(int from, List<Integer> gone) {
        gone.add(from);
        int most = 0;
        for (int i : now.allIn()) {
            if (!gone.contains(i) && now.sorrows.get(i).under.contains(from)) {
                most = Math.max(most, longest(i, gone));
            }
        }
        gone.remove(gone.size() - 1);
        return most + now.sorrows.get(from).time;
    }

    int chain(int what) {
        if (told == null || what < 0 || what > 1) {
            return -1;
        }
        int most = 0;
        int first = -2;
        for (int i : now.allIn()) {
            int time = longest(i, new ArrayList<>());
            if (time > most) {
                most = time;
                first = i;
            }
        }
        return what == 0 ? most : first;
    }

    private boolean comesBack(int to, int at, List<Integer> among, List<Integer> gone) {
        for (int next : now.sorrows.get(at).under) {
            if (among.contains(next)) {
                if (next == to) {
                    return true;
                }
                if (!gone.contains(next)) {
                    gone.add(next);
                    if (comesBack(to, next, among, gone)) {
                        return true;
                    }
                }
            }
        }
        return false;
    }

    private int ringsAmong(List<Integer> among) {
        int bits = 0;
        for (int i : among) {
            if (comesBack(i, i, among, new ArrayList<>())) {
                bits |= 1 << i;
            }
        }
        return bits;
    }

    int rings() {
        return told == null ? -1 : ringsAmong(now.allIn());
    }

    int taken(int what) {
        if (told == null || what < 0 || what > 1) {
            return -1;
        }
        for (int many = 0; many <= 8; many++) {
            for (int set = 0; set < 256; set++) {
                if (Integer.bitCount(set) == many && (set & ~bits(now.allIn())) == 0) {
                    int out = set;
                    List<Integer> left = now.allIn();
                    left.removeIf(i -> (out >> i & 1) == 1);
                    if (ringsAmong(left) == 0) {
                        return what == 0 ? many : set;
                    }
                }
            }
        }
        throw new IllegalStateException();
    }

    int slack(int sorrow) {
        if (!in(sorrow)) {
            return -1;
        }
        int best = -2;
        for (int wait = 0; wait <= 300; wait++) {
            World w = now.copy();
            w.minute = Math.min(9999, w.minute + wait);
            for (int i = 0; i < 100 && w.in(sorrow); i++) {
                goOn(w, force);
            }
            if (w.sorrows.get(sorrow).where == 1) {
                best = wait;
            }
        }
        return best;
    }

    private int[] bestWay;
    private int bestCarried;

    private void tryWays(int i, int[] way, int[] left, int carried) {
        if (i == way.length) {
            if (bestWay == null || carried > bestCarried) {
                bestWay = way.clone();
                bestCarried = carried;
            }
            return;
        }
        way[i] = now.in(i) ? -1 : -2;
        tryWays(i + 1, way, left, carried);
        int weight = now.sorrows.get(i).weight;
        for (int c = 0; c < left.length && now.in(i); c++) {
            if (left[c] >= weight) {
                left[c] -= weight;
                way[i] = c;
                tryWays(i + 1, way, left, carried + weight);
                left[c] += weight;
            }
        }
    }

    int carry(int what) {
        if (told == null || what < -1 || what > 7) {
            return -3;
        }
        bestWay = null;
        tryWays(0, new int[now.sorrows.size()], now.strong.stream().mapToInt(i -> i).toArray(), 0);
        return what == -1 ? bestCarried : what < bestWay.length ? bestWay[what] : -2;
    }

    int pole(int what) {
        if (told == null || what < 0 || what > 1) {
            return -1;
        }
        for (int many = 0; many <= now.strong.size(); many++) {
            for (int set = 0; set < 1 << now.strong.size(); set++) {
                int strong = 0;
                for (int c = 0; c < now.strong.size(); c++) {
                    strong += (set >> c & 1) * now.strong.get(c);
                }
                if (Integer.bitCount(set) == many && strong >= now.load()) {
                    return what == 0 ? many : set;
                }
            }
        }
        return -2;
    }

    int light(int weight) {
        if (told == null || weight < 0 || weight > 200) {
            return -1;
        }
        World w = now.copy();
        for (int i = 0; i <= 100; i++) {
            if (w.load() <= weight) {
                return i;
            }
            goOn(w, force);
        }
        return -2;
    }

    private List<Integer> goneThrough(World from, int rule) {
        World w = from.copy();
        List<Integer> lifted = new ArrayList<>();
        for (int n = 0; n <= 60; n++) {
            lifted.add(goOn(w, rule));
        }
        return lifted;
    }

    /** What a rule lifts in a step from the begin on: for notes that some rule is true to. */
    int liftedBy(int rule, int n) {
        return told == null || rule >= rules.size() ? -1 : goneThrough(told, rule).get(n);
    }

    private boolean isSo(List<Integer> lifted) {
        return notes.stream().allMatch(n -> lifted.get(n.n()) == n.sorrow());
    }

    int took(int sorrow, int what) {
        if (!has(sorrow) || what < 0 || what > 1) {
            return -1;
        }
        List<Integer> so = new ArrayList<>();
        for (int time = 1; time <= 40; time++) {
            World w = told.copy();
            w.sorrows.get(sorrow).time = time;
            if (isSo(goneThrough(w, force))) {
                so.add(time);
            }
        }
        return what == 0 ? so.size() : so.isEmpty() ? -2 : so.get(0);
    }

    private int more(World w) {
        List<Integer> loose = w.allLoose();
        int best = Integer.MIN_VALUE;
        for (int i : loose) {
            w.sorrows.get(i).where = 1;
            best = Math.max(best, w.sorrows.get(i).deep - more(w));
            w.sorrows.get(i).where = 0;
        }
        return loose.isEmpty() ? 0 : best;
    }

    int game(int what) {
        if (told == null || what < 0 || what > 1) {
            return -1000;
        }
        World w = now.copy();
        int best = more(w);
        if (what == 0) {
            return best;
        }
        for (int i : now.allLoose()) {
            w.sorrows.get(i).where = 1;
            boolean is = w.sorrows.get(i).deep - more(w) == best;
            w.sorrows.get(i).where = 0;
            if (is) {
                return i;
            }
        }
        return -1;
    }

    int pence(int much, int sorrow) {
        if (!has(sorrow) || much < 0 || much > 9999) {
            return -1;
        }
        int all = now.rest();
        if (all == 0) {
            return 0;
        }
        List<Integer> heirs = new ArrayList<>();
        int[] part = new int[now.sorrows.size()];
        int left = much;
        for (int i = 0; i < part.length; i++) {
            if (now.sorrows.get(i).where == 1) {
                heirs.add(i);
                part[i] = (int) Math.floor((double) much * now.sorrows.get(i).deep / all);
                left -= part[i];
            }
        }
        heirs.sort((a, b) -> Integer.compare(
                much * now.sorrows.get(b).deep - part[b] * all, much * now.sorrows.get(a).deep - part[a] * all));
        for (int k = 0; k < left; k++) {
            part[heirs.get(k)]++;
        }
        return part[sorrow];
    }

    int note(int n, int sorrow) {
        if (n == -1) {
            notes = new ArrayList<>();
            return 0;
        }
        if (told == null || n < 0 || n > 60 || notes.size() == 10 || sorrow != -1 && !has(sorrow)) {
            return -2;
        }
        notes.add(new Note(n, sorrow));
        return notes.size();
    }

    private List<Integer> ruledBy() {
        List<Integer> by = new ArrayList<>();
        for (int r = -1; r < rules.size(); r++) {
            if (isSo(goneThrough(told, r))) {
                by.add(r);
            }
        }
        return by;
    }

    int ruled(int what) {
        if (told == null || what < 0 || what > 1) {
            return -3;
        }
        List<Integer> by = ruledBy();
        return what == 0 ? by.size() : by.isEmpty() ? -2 : by.get(0);
    }

    int look(int what) {
        if (told == null || what < 0 || what > 1) {
            return -1;
        }
        List<Integer> by = ruledBy();
        int best = -2;
        int fewest = 99;
        for (int n = 0; n <= 60 && !by.isEmpty(); n++) {
            int[] piles = new int[9];
            for (int r : by) {
                piles[goneThrough(told, r).get(n) + 1]++;
            }
            int most = java.util.Arrays.stream(piles).max().getAsInt();
            if (most < fewest) {
                fewest = most;
                best = n;
            }
        }
        return by.isEmpty() ? -2 : what == 0 ? best : fewest;
    }

    int seed(int to) {
        if (to < 0) {
            return -1;
        }
        int was = x;
        x = to;
        return was;
    }

    int years(int m, int what) {
        if (told == null || m < 1 || m > 20 || what < 0 || what > 1) {
            return -1;
        }
        BigInteger drawn = BigInteger.valueOf(x);
        int all = 0;
        for (int year = 0; year < m; year++) {
            World w = now.copy();
            while (!w.allLoose().isEmpty()) {
                drawn = drawn.multiply(BigInteger.valueOf(1103515245)).add(BigInteger.valueOf(12345))
                        .mod(BigInteger.valueOf(2147483648L));
                int draw = drawn.intValue() / 65536;
                w.lift(w.allLoose().get(draw % w.allLoose().size()));
            }
            all += what == 0 ? w.rest() : w.minute;
        }
        return all;
    }

    int count(int what) {
        World w = told == null ? new World() : now;
        return switch (what) {
            case 0 -> w.dusk;
            case 1 -> w.earth;
            case 2 -> w.sorrows.size();
            case 3 -> w.strong.size();
            case 4 -> rules.size();
            case 5 -> force;
            case 6 -> w.minute;
            case 7 -> w.step;
            case 8 -> bits(w.allIn());
            case 9 -> bits(w.allLoose());
            case 10 -> w.rest();
            case 11 -> w.load();
            case 12 -> notes.size();
            case 13 -> past.size();
            case 14 -> x;
            case 15 -> tape.length;
            default -> -1;
        };
    }

    int image(int k) {
        if (k < 0 || k > 3) {
            return -1;
        }
        images[k] = new Image(told, told == null ? null : now.copy(), force, x, List.copyOf(notes));
        return count(6);
    }

    int back(int k) {
        if (k < 0 || k > 3 || images[k] == null) {
            return -1;
        }
        Image i = images[k];
        told = i.told();
        now = told == null ? null : i.now().copy();
        force = i.force();
        x = i.x();
        notes = new ArrayList<>(i.notes());
        past.clear();
        return count(6);
    }
}
