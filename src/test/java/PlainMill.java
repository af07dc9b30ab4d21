import java.util.ArrayList;
import java.util.Arrays;
import java.util.Comparator;
import java.util.List;

/**
 * The document told again in the slowest and plainest way, for RandomTest to compare with: rows are
 * lists, bits are texts of '0' and '1' (bit p stands at p), and everything is looked for, not worked
 * out. It shares no code and no short cut with PrefixMill.
 */
final class PlainMill {
    private static final class Fault extends RuntimeException {
        private static final long serialVersionUID = 1L;
        final int number;

        Fault(int number) {
            this.number = number;
        }
    }

    private static final class Knot {
        final int count;
        final List<Integer> symbols = new ArrayList<>();

        Knot(int count) {
            this.count = count;
        }
    }

    List<Integer> in = new ArrayList<>();
    List<Integer> out = new ArrayList<>();
    int place = 0;
    int[] counts = new int[256];
    /** The LENGTHS, null while there are no codes. */
    int[] codes = null;

    boolean write(long eight, int n) {
        if (n < 1 || n > 8 || in.size() + n > 6000) {
            return false;
        }
        for (int i = 0; i < n; i++) {
            in.add((int) ((eight >>> (8 * (7 - i))) & 0xff));
        }
        return true;
    }

    boolean again(int m, int n) {
        if (m < 1 || m > in.size() || n < 0 || in.size() + (long) m * n > 6000) {
            return false;
        }
        List<Integer> last = new ArrayList<>(in.subList(in.size() - m, in.size()));
        for (int i = 0; i < n; i++) {
            in.addAll(last);
        }
        return true;
    }

    void turn() {
        in = new ArrayList<>(out);
        place = 0;
    }

    void clear() {
        in = new ArrayList<>();
        place = 0;
        counts = new int[256];
    }

    boolean place(int p) {
        if (p < 0 || p > in.size()) {
            return false;
        }
        place = p;
        return true;
    }

    boolean count(int symbol, int c) {
        if (symbol < 0 || symbol > 255 || c < 0 || c > 65535) {
            return false;
        }
        counts[symbol] = c;
        return true;
    }

    int countAll() {
        counts = new int[256];
        for (int b : rest()) {
            counts[b]++;
        }
        return rest().size();
    }

    private List<Integer> rest() {
        return in.subList(place, in.size());
    }

    int lengths(int most) {
        if (most < 1 || most > 11) {
            return -1;
        }
        int known = 0;
        for (int c : counts) {
            known += c > 0 ? 1 : 0;
        }
        if (known < 2 || known > Math.pow(2, most)) {
            return -2;
        }
        int[] now = counts.clone();
        int[] made = sumsOf(now);
        while (Arrays.stream(made).max().getAsInt() > most) {
            for (int s = 0; s < 256; s++) {
                now[s] = now[s] / 2 + now[s] % 2;
            }
            made = sumsOf(now);
        }
        codes = made;
        return greatest();
    }

    private static int[] sumsOf(int[] counts) {
        List<Knot> knots = new ArrayList<>();
        for (int s = 0; s < 256; s++) {
            if (counts[s] > 0) {
                Knot knot = new Knot(counts[s]);
                knot.symbols.add(s);
                knots.add(knot);
            }
        }
        int[] made = new int[256];
        while (knots.size() > 1) {
            Knot one = leastOf(knots);
            Knot two = leastOf(knots);
            Knot both = new Knot(one.count + two.count);
            both.symbols.addAll(one.symbols);
            both.symbols.addAll(two.symbols);
            knots.add(both);
            for (int s : both.symbols) {
                made[s]++;
            }
        }
        return made;
    }

    private static Knot leastOf(List<Knot> knots) {
        Knot least = knots.get(0);
        for (Knot knot : knots) {
            if (knot.count < least.count) {
                least = knot;
            }
        }
        knots.remove(least);
        return least;
    }

    int just() {
        if (!areLengths(counts)) {
            return -1;
        }
        codes = counts.clone();
        return greatest();
    }

    private static boolean areLengths(int[] lengths) {
        int t = Arrays.stream(lengths).max().getAsInt();
        if (t < 1 || t > 11) {
            return false;
        }
        double sum = 0;
        for (int length : lengths) {
            sum += length > 0 ? Math.pow(2, -length) : 0;
        }
        return sum == 1.0;
    }

    private int greatest() {
        return Arrays.stream(codes).max().getAsInt();
    }

    private static int weight(int[] codes, int symbol) {
        int t = Arrays.stream(codes).max().getAsInt();
        return codes[symbol] == 0 ? 0 : t + 1 - codes[symbol];
    }

    /** The symbol of each cell. */
    private static List<Integer> cells(int[] codes) {
        List<Integer> symbols = new ArrayList<>();
        for (int s = 0; s < 256; s++) {
            if (codes[s] > 0) {
                symbols.add(s);
            }
        }
        symbols.sort(Comparator.comparingInt((Integer s) -> weight(codes, s)).thenComparingInt(s -> s));
        List<Integer> cells = new ArrayList<>();
        for (int s : symbols) {
            for (int i = 0; i < Math.pow(2, weight(codes, s) - 1); i++) {
                cells.add(s);
            }
        }
        return cells;
    }

    /** By symbol: the code, its highest bit first; null where there is none. */
    private String[] codeTexts() {
        String[] texts = new String[256];
        List<Integer> cells = cells(codes);
        for (int cell = 0; cell < cells.size(); cell++) {
            int s = cells.get(cell);
            texts[s] = upper(cell, greatest()).substring(0, codes[s]);
        }
        return texts;
    }

    /** A number in n bits, the highest first. */
    private static String upper(int number, int n) {
        StringBuilder text = new StringBuilder();
        for (int i = n - 1; i >= 0; i--) {
            text.append((number >> i) % 2);
        }
        return text.toString();
    }

    /** A number in n bits, the lowest first, as it stands in a row. */
    private static String lower(int number, int n) {
        return new StringBuilder(upper(number, n)).reverse().toString();
    }

    private static String whole(String bits) {
        return bits + "0".repeat((8 - bits.length() % 8) % 8);
    }

    private static List<Integer> bytes(String bits) {
        List<Integer> bytes = new ArrayList<>();
        for (int i = 0; i < bits.length(); i += 8) {
            bytes.add(Integer.parseInt(new StringBuilder(bits.substring(i, i + 8)).reverse().toString(), 2));
        }
        return bytes;
    }

    private static String bits(List<Integer> bytes) {
        StringBuilder bits = new StringBuilder();
        for (int b : bytes) {
            bits.append(lower(b, 8));
        }
        return bits.toString();
    }

    int about(int what) {
        if (codes == null) {
            return -1;
        }
        if (what == 0) {
            return greatest();
        }
        if (what == 1) {
            return (int) Arrays.stream(codes).filter(l -> l > 0).count();
        }
        if (what != 2 || lacksCode()) {
            return -1;
        }
        return rest().stream().mapToInt(b -> codes[b]).sum();
    }

    private boolean lacksCode() {
        return rest().stream().anyMatch(b -> codes[b] == 0);
    }

    int code(int symbol, int what) {
        if (codes == null || symbol < 0 || symbol > 255 || codes[symbol] == 0 || what < 0 || what > 1) {
            return -1;
        }
        return what == 0 ? codes[symbol] : Integer.parseInt(codeTexts()[symbol], 2);
    }

    int encode(boolean four) {
        if (codes == null) {
            return -1;
        }
        if (lacksCode()) {
            return -2;
        }
        List<Integer> all = rest();
        List<Integer> made = new ArrayList<>();
        if (four) {
            int c = (int) Math.ceil(all.size() / 4.0);
            if (all.size() < 3 * c) {
                return -3;
            }
            for (int i = 0; i < 3; i++) {
                int many = stream(all.subList(i * c, i * c + c)).size();
                made.add(many % 256);
                made.add(many / 256);
            }
            for (int i = 0; i < 3; i++) {
                made.addAll(stream(all.subList(i * c, i * c + c)));
            }
            made.addAll(stream(all.subList(3 * c, all.size())));
        } else {
            made.addAll(stream(all));
        }
        if (made.size() > 6000) {
            return -4;
        }
        out = made;
        return out.size();
    }

    private List<Integer> stream(List<Integer> symbols) {
        String[] texts = codeTexts();
        StringBuilder bits = new StringBuilder();
        for (int i = symbols.size() - 1; i >= 0; i--) {
            bits.append(new StringBuilder(texts[symbols.get(i)]).reverse());
        }
        return bytes(whole(bits + "1"));
    }

    int decode(int n, boolean four) {
        int c = (n + 3) / 4;
        if (codes == null || n < 0 || n > 6000 || four && n < 3 * c) {
            return -1;
        }
        List<Integer> made = new ArrayList<>();
        List<Integer> all = rest();
        try {
            if (four) {
                if (all.size() < 6) {
                    return -2;
                }
                int from = 6;
                int[] begins = new int[4];
                for (int i = 0; i < 4; i++) {
                    begins[i] = from;
                    from += i < 3 ? all.get(2 * i) + 256 * all.get(2 * i + 1) : 0;
                }
                if (begins[3] > all.size()) {
                    return -2;
                }
                for (int i = 0; i < 3; i++) {
                    made.addAll(symbols(all.subList(begins[i], begins[i + 1]), c));
                }
                made.addAll(symbols(all.subList(begins[3], all.size()), n - 3 * c));
            } else {
                made.addAll(symbols(all, n));
            }
        } catch (Fault fault) {
            return -fault.number;
        }
        out = made;
        return n;
    }

    private List<Integer> symbols(List<Integer> stream, int n) {
        if (stream.isEmpty() || stream.get(stream.size() - 1) == 0) {
            throw new Fault(3);
        }
        String bits = bits(stream);
        // What is not read yet, the next bit first, and enough bits below the first one.
        String left = new StringBuilder(bits.substring(0, bits.lastIndexOf('1'))).reverse().toString();
        int there = left.length();
        left = left + "0".repeat(11 * n + 11);
        List<Integer> cells = cells(codes);
        List<Integer> made = new ArrayList<>();
        int at = 0;
        for (int i = 0; i < n; i++) {
            int s = cells.get(Integer.parseInt(left.substring(at, at + greatest()), 2));
            made.add(s);
            at += codes[s];
        }
        if (at != there) {
            throw new Fault(4);
        }
        return made;
    }

    // The description.

    int describe() {
        if (codes == null) {
            return -1;
        }
        int k = 0;
        for (int s = 0; s < 256; s++) {
            k = codes[s] > 0 ? s : k;
        }
        List<Integer> weights = new ArrayList<>();
        for (int s = 0; s < k; s++) {
            weights.add(weight(codes, s));
        }
        List<Integer> direct = k <= 128 ? direct(weights) : null;
        List<Integer> states = null;
        if (k >= 2 && weights.stream().distinct().count() > 1) {
            List<Integer> five = states(weights, 5);
            List<Integer> six = states(weights, 6);
            states = six.size() < five.size() ? six : five;
            states = states.size() < 128 ? states : null;
        }
        if (states != null) {
            states.add(0, states.size());
        }
        if (direct == null && states == null) {
            return -2;
        }
        if (direct == null || states != null && states.size() < direct.size()) {
            out = states;
        } else {
            out = direct;
        }
        return out.size();
    }

    private static List<Integer> direct(List<Integer> weights) {
        List<Integer> made = new ArrayList<>();
        made.add(127 + weights.size());
        for (int i = 0; i < weights.size(); i += 2) {
            int low = i + 1 == weights.size() ? 0 : weights.get(i + 1);
            made.add(16 * weights.get(i) + low);
        }
        return made;
    }

    static List<Integer> states(List<Integer> weights, int order) {
        int[] points = share(weights, order);
        List<Integer> made = bytes(whole(shareBits(points, order)));
        made.addAll(bytes(whole(rowBits(weights, points, order))));
        return made;
    }

    private static int[] share(List<Integer> weights, int order) {
        int full = 1 << order;
        int n = weights.size();
        int[] points = new int[12];
        int[] cut = new int[12];
        List<Integer> more = new ArrayList<>();
        for (int v = 0; v < 12; v++) {
            int now = v;
            int c = (int) weights.stream().filter(w -> w == now).count();
            if (c == 0) {
                points[v] = 0;
            } else if (c * full < n) {
                points[v] = -1;
            } else {
                points[v] = c * full / n;
                cut[v] = c * full - points[v] * n;
                more.add(v);
            }
        }
        more.sort(Comparator.comparingInt((Integer v) -> -cut[v]).thenComparingInt(v -> v));
        while (masses(points) < full) {
            for (int v : more) {
                if (masses(points) < full) {
                    points[v]++;
                }
            }
        }
        while (masses(points) > full) {
            int most = 11;
            for (int v = 11; v >= 0; v--) {
                most = points[v] >= points[most] ? v : most;
            }
            points[most]--;
        }
        return points;
    }

    private static int masses(int[] points) {
        int sum = 0;
        for (int p : points) {
            sum += p == -1 ? 1 : p;
        }
        return sum;
    }

    private static String shareBits(int[] points, int order) {
        StringBuilder bits = new StringBuilder(lower(order - 5, 4));
        int lack = 1 << order;
        int v = 0;
        while (lack > 0) {
            int u = points[v] + 1;
            int t = Integer.highestOneBit(lack + 1);
            int m = 2 * t - 2 - lack;
            int few = Integer.toBinaryString(t - 1).length();
            if (u < m) {
                bits.append(lower(u, few));
            } else {
                bits.append(lower(u < t ? u : u + m, few + 1));
            }
            lack -= points[v] == -1 ? 1 : points[v];
            v++;
            if (u == 1) {
                while (points[v] == 0 && points[v + 1] == 0 && points[v + 2] == 0) {
                    bits.append("11");
                    v += 3;
                }
                int none = points[v] != 0 ? 0 : points[v + 1] != 0 ? 1 : 2;
                bits.append(lower(none, 2));
                v += none;
            }
        }
        return bits.toString();
    }

    /** By place: v, the bits it takes, its BASE. */
    private static int[][] places(int[] points, int order) {
        int full = 1 << order;
        int[][] places = new int[full][];
        for (int v = 0; v < 12; v++) {
            if (points[v] == -1) {
                int p = full - 1;
                while (places[p] != null) {
                    p--;
                }
                places[p] = new int[] {v, 0, 0};
            }
        }
        int at = 0;
        for (int v = 0; v < 12; v++) {
            for (int i = 0; i < points[v]; i++) {
                while (places[at] != null) {
                    at = (at + full / 2 + full / 8 + 3) % full;
                }
                places[at] = new int[] {v, 0, 0};
            }
        }
        for (int v = 0; v < 12; v++) {
            int x = points[v] == -1 ? 1 : points[v];
            for (int p = 0; p < full; p++) {
                if (places[p][0] == v) {
                    int k = 0;
                    while (1 << (k + 1) <= x) {
                        k++;
                    }
                    places[p][1] = order - k;
                    places[p][2] = (x << (order - k)) - full;
                    x++;
                }
            }
        }
        return places;
    }

    private static String rowBits(List<Integer> weights, int[] points, int order) {
        int[][] places = places(points, order);
        int k = weights.size();
        int[] states = new int[k];
        states[k - 1] = lowest(places, weights.get(k - 1));
        states[k - 2] = lowest(places, weights.get(k - 2));
        StringBuilder bits = new StringBuilder();
        for (int i = k - 3; i >= 0; i--) {
            int state = states[i + 2];
            int found = 0;
            for (int p = 0; p < places.length; p++) {
                int[] one = places[p];
                if (one[0] == weights.get(i) && state >= one[2] && state < one[2] + (1 << one[1])) {
                    states[i] = p;
                    found++;
                }
            }
            if (found != 1) {
                throw new IllegalStateException("not just one place");
            }
            bits.append(lower(state - places[states[i]][2], places[states[i]][1]));
        }
        bits.append(lower(states[1], order)).append(lower(states[0], order)).append('1');
        return bits.toString();
    }

    private static int lowest(int[][] places, int v) {
        int p = 0;
        while (places[p][0] != v || places[p][1] == 0) {
            p++;
        }
        return p;
    }

    // Reading it.

    int read() {
        try {
            return readOrFault();
        } catch (Fault fault) {
            return -fault.number;
        }
    }

    private int readOrFault() {
        List<Integer> all = rest();
        if (all.isEmpty()) {
            throw new Fault(1);
        }
        int x = all.get(0);
        int many = x > 127 ? (int) Math.ceil((x - 127) / 2.0) : x;
        if (all.size() < 1 + many) {
            throw new Fault(1);
        }
        List<Integer> own = all.subList(1, 1 + many);
        List<Integer> weights = new ArrayList<>();
        if (x > 127) {
            for (int b : own) {
                weights.add(b / 16);
                weights.add(b % 16);
            }
            weights = weights.subList(0, x - 127);
        } else {
            weights = statesRead(own);
        }
        codes = fromWeights(weights);
        place += 1 + many;
        return greatest();
    }

    private static int[] fromWeights(List<Integer> weights) {
        int sum = 0;
        for (int w : weights) {
            sum += w > 0 ? 1 << (w - 1) : 0;
        }
        int t = 0;
        while (1 << t <= sum) {
            t++;
        }
        int lacks = (1 << t) - sum;
        if (sum == 0 || t > 11 || Integer.bitCount(lacks) != 1) {
            throw new Fault(4);
        }
        List<Integer> all = new ArrayList<>(weights);
        all.add(Integer.numberOfTrailingZeros(lacks) + 1);
        if (all.stream().filter(w -> w == 1).count() < 2) {
            throw new Fault(4);
        }
        int[] made = new int[256];
        for (int s = 0; s < all.size(); s++) {
            made[s] = all.get(s) == 0 ? 0 : t + 1 - all.get(s);
        }
        return made;
    }

    private static List<Integer> statesRead(List<Integer> own) {
        String bits = bits(own);
        int[] at = {0};
        int order = 5 + next(bits, at, 4);
        if (order > 6) {
            throw new Fault(2);
        }
        int[] points = new int[12];
        int v = 0;
        while (masses(points) < 1 << order) {
            if (v > 11) {
                throw new Fault(2);
            }
            int lack = (1 << order) - masses(points);
            int t = Integer.highestOneBit(lack + 1);
            int m = 2 * t - 2 - lack;
            int few = Integer.toBinaryString(t - 1).length();
            int u = next(bits, at, few);
            if (u >= m) {
                at[0] -= few;
                u = next(bits, at, few + 1);
                u = u < t ? u : u - m;
            }
            points[v] = u - 1;
            v++;
            if (u == 1) {
                int none = 3;
                while (none == 3) {
                    none = next(bits, at, 2);
                    v += none;
                    if (v > 12) {
                        throw new Fault(2);
                    }
                }
            }
        }
        return rowRead(own.subList((at[0] + 7) / 8, own.size()), points, order);
    }

    private static int next(String bits, int[] at, int n) {
        if (at[0] + n > bits.length()) {
            throw new Fault(2);
        }
        int number = Integer.parseInt(new StringBuilder(bits.substring(at[0], at[0] + n)).reverse().toString(), 2);
        at[0] += n;
        return number;
    }

    private static List<Integer> rowRead(List<Integer> row, int[] points, int order) {
        if (row.isEmpty() || row.get(row.size() - 1) == 0) {
            throw new Fault(3);
        }
        String bits = bits(row);
        String left = new StringBuilder(bits.substring(0, bits.lastIndexOf('1'))).reverse().toString();
        if (left.length() < 2 * order) {
            throw new Fault(3);
        }
        int[][] places = places(points, order);
        int[] states = {
            Integer.parseInt(left.substring(0, order), 2), Integer.parseInt(left.substring(order, 2 * order), 2)
        };
        int at = 2 * order;
        List<Integer> weights = new ArrayList<>();
        int turn = 0;
        while (weights.size() <= 255) {
            int[] one = places[states[turn]];
            weights.add(one[0]);
            if (left.length() - at < one[1]) {
                weights.add(places[states[1 - turn]][0]);
                break;
            }
            states[turn] = one[2] + (one[1] == 0 ? 0 : Integer.parseInt(left.substring(at, at + one[1]), 2));
            at += one[1];
            turn = 1 - turn;
        }
        if (weights.size() > 255) {
            throw new Fault(3);
        }
        return weights;
    }
}
