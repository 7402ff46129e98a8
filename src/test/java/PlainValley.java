import java.util.ArrayList;
import java.util.List;
import java.util.regex.Matcher;
import java.util.regex.Pattern;

/**
 * The document told a second time, as plainly as can be and by other means than the program: ways are walked
 * one by one, CLIFFS really become GRASS, LEAVES are really given and taken back. ModelTest compares the two.
 */
final class PlainValley {
    static final int BAD = -2, NO = -3, FULL = -4, NONE = -1;

    static final class Maker {
        int kind, cell, owner, cry = 5;
    }

    /** What an image keeps. */
    static final class State {
        int w = 5, h = 5;
        int[] ground = new int[25], air = new int[25], told = new int[25];
        int[] fees = {1, 1, 1, 1, 1, 1}, lets = {-1, -1, -1, -1, -1, -1};
        List<Maker> makers = new ArrayList<>();
        List<int[]> leaves = new ArrayList<>();
        List<List<int[]>> past = new ArrayList<>();

        State() {
        }

        State(int w, int h) {
            this.w = w;
            this.h = h;
            ground = new int[w * h];
            air = new int[w * h];
            told = new int[w * h];
        }

        State copy() {
            State c = new State(w, h);
            c.ground = ground.clone();
            c.air = air.clone();
            c.told = told.clone();
            c.fees = fees.clone();
            c.lets = lets.clone();
            for (Maker m : makers) {
                Maker k = new Maker();
                k.kind = m.kind;
                k.cell = m.cell;
                k.owner = m.owner;
                k.cry = m.cry;
                c.makers.add(k);
            }
            c.leaves = copyLeaves(leaves);
            for (List<int[]> p : past) {
                c.past.add(copyLeaves(p));
            }
            return c;
        }

        static List<int[]> copyLeaves(List<int[]> from) {
            List<int[]> to = new ArrayList<>();
            for (int[] l : from) {
                to.add(l.clone());
            }
            return to;
        }
    }

    State s = new State();
    final State[] images = new State[2];
    String text = "";
    final int[] status = new int[3];

    private int bad() {
        status[0]++;
        return BAD;
    }

    private int badAs(int answer) {
        status[0]++;
        return answer;
    }

    private int no() {
        status[1]++;
        return NO;
    }

    private int full() {
        status[2]++;
        return FULL;
    }

    private static boolean in(int v, int least, int most) {
        return least <= v && v <= most;
    }

    private boolean cell(int c) {
        return in(c, 0, s.w * s.h - 1);
    }

    private boolean isMaker(int m) {
        return in(m, 0, s.makers.size() - 1);
    }

    private boolean sound(int m, int loud, int hour) {
        return isMaker(m) && in(loud, 1, 20) && in(hour, 0, 23);
    }

    // ---- a valley

    int valley(int w, int h) {
        if (!in(w, 1, 6) || !in(h, 1, 6)) {
            return bad();
        }
        s = new State(w, h);
        return 1;
    }

    int put(int what, int c, int v) {
        if (!in(what, 0, 1) || !cell(c) || !in(v, 0, what == 0 ? 2 : 5)) {
            return bad();
        }
        int[] row = what == 0 ? s.ground : s.air;
        int was = row[c];
        row[c] = v;
        return was;
    }

    int fee(int owner, int n) {
        if (!in(owner, 0, 5) || !in(n, 0, 99)) {
            return bad();
        }
        int was = s.fees[owner];
        s.fees[owner] = n;
        return was;
    }

    int maker(int kind, int c, int owner) {
        if (!in(kind, 0, 5) || !cell(c) || !in(owner, 0, 5)) {
            return bad();
        }
        if (s.makers.size() == 6) {
            return full();
        }
        Maker m = new Maker();
        m.kind = kind;
        m.cell = c;
        m.owner = owner;
        s.makers.add(m);
        return s.makers.size() - 1;
    }

    private void keep() {
        s.past.add(State.copyLeaves(s.leaves));
        if (s.past.size() > 8) {
            s.past.remove(0);
        }
    }

    int leave(int m, int owner, int a, int b, int loud) {
        if (!isMaker(m) || !in(owner, 0, 5) || !in(a, 0, 23) || !in(b, a, 23) || !in(loud, 1, 20)) {
            return bad();
        }
        if (s.leaves.size() == 8) {
            return full();
        }
        keep();
        s.leaves.add(new int[] {m, owner, a, b, loud});
        return s.leaves.size() - 1;
    }

    int take(int i) {
        if (!in(i, 0, s.leaves.size() - 1)) {
            return bad();
        }
        keep();
        s.leaves.remove(i);
        return s.leaves.size();
    }

    int undo() {
        if (s.past.isEmpty()) {
            return no();
        }
        s.leaves = s.past.remove(s.past.size() - 1);
        return s.leaves.size();
    }

    int about(int i, int what) {
        if (!in(i, 0, s.leaves.size() - 1) || !in(what, 0, 4)) {
            return bad();
        }
        return s.leaves.get(i)[what];
    }

    int type(int c) {
        if (!in(c, 0, 127)) {
            return bad();
        }
        if (text.length() == 150) {
            return full();
        }
        text += (char) c;
        return text.length();
    }

    int clear() {
        int had = text.length();
        text = "";
        return had;
    }

    // ---- the text

    private static final Pattern TOKEN = Pattern.compile(" *([a-z]+|[0-9]+|;)");

    int read() {
        PlainValley fresh = new PlainValley();
        List<String> tokens = new ArrayList<>();
        List<Integer> places = new ArrayList<>();
        Matcher m = TOKEN.matcher(text);
        int at = 0;
        while (m.find(at) && m.start() == at) {
            tokens.add(m.group(1));
            places.add(m.start(1));
            at = m.end();
        }
        while (at < text.length() && text.charAt(at) == ' ') {
            at++;
        }
        // What stands there is the end, or a byte that begins no token.
        tokens.add("");
        places.add(at);
        int items = 0;
        int t = 0;
        while (true) {
            String word = tokens.get(t);
            if (word.isEmpty() && at == text.length() && items > 0) {
                s = fresh.s;
                s.past.clear();
                return items;
            }
            int[][] bounds = fresh.bounds(word, items);
            if (bounds == null) {
                return -10 - places.get(t);
            }
            t++;
            int[] n = new int[bounds.length];
            for (int i = 0; i < bounds.length; i++, t++) {
                String number = tokens.get(t);
                if (!number.matches("[0-9]{1,2}")) {
                    return -10 - places.get(t);
                }
                n[i] = Integer.parseInt(number);
                int least = word.equals("leave") && i == 3 ? n[2] : bounds[i][0];
                if (!in(n[i], least, bounds[i][1])) {
                    return -10 - places.get(t);
                }
            }
            if (!tokens.get(t).equals(";")) {
                return -10 - places.get(t);
            }
            t++;
            fresh.apply(word, n);
            items++;
        }
    }

    private int[][] bounds(String word, int items) {
        int c = s.w * s.h - 1;
        if (word.equals("valley") != (items == 0)) {
            return null;
        }
        switch (word) {
            case "valley": return new int[][] {{1, 6}, {1, 6}};
            case "ground": return new int[][] {{0, c}, {0, 2}};
            case "air": return new int[][] {{0, c}, {0, 5}};
            case "fee": return new int[][] {{0, 5}, {0, 99}};
            case "maker": return s.makers.size() == 6 ? null : new int[][] {{0, 5}, {0, c}, {0, 5}};
            case "leave": return s.leaves.size() == 8 ? null
                : new int[][] {{0, s.makers.size() - 1}, {0, 5}, {0, 23}, {0, 23}, {1, 20}};
            default: return null;
        }
    }

    private void apply(String word, int[] n) {
        switch (word) {
            case "valley": valley(n[0], n[1]); break;
            case "ground": put(0, n[0], n[1]); break;
            case "air": put(1, n[0], n[1]); break;
            case "fee": fee(n[0], n[1]); break;
            case "maker": maker(n[0], n[1], n[2]); break;
            default: leave(n[0], n[1], n[2], n[3], n[4]);
        }
    }

    // ---- sounds: every way is walked

    private List<Integer> besides(int c) {
        List<Integer> list = new ArrayList<>();
        int x = c % s.w;
        int y = c / s.w;
        int[][] steps = {{0, -1}, {-1, 0}, {1, 0}, {0, 1}};
        for (int[] d : steps) {
            if (in(x + d[0], 0, s.w - 1) && in(y + d[1], 0, s.h - 1)) {
                list.add((y + d[1]) * s.w + x + d[0]);
            }
        }
        return list;
    }

    /** Has the owner leave to be so loud in that cell, by the leaves of these makers? */
    private boolean licensed(int owner, List<Integer> of, int hour, int loud, int c) {
        if (s.air[c] == owner) {
            return true;
        }
        for (int[] l : s.leaves) {
            if (of.contains(l[0]) && l[1] == s.air[c] && in(hour, l[2], l[3]) && loud <= l[4]) {
                return true;
            }
        }
        return false;
    }

    private void walk(boolean[][] seen, int c, int loud, int kind, int owner, List<Integer> of, int hour, boolean free) {
        if (loud <= 0 || seen[c][loud]) {
            return;
        }
        seen[c][loud] = true;
        boolean hedge = s.ground[c] == 1;
        int then;
        if (kind == 0) {
            then = hedge ? 0 : loud - 1;
        } else if (kind == 1 || kind == 4) {
            then = hedge ? loud - 2 : loud - 1;
        } else if (kind == 2 || kind == 3) {
            then = hedge ? 0 : loud - 2;
        } else {
            then = loud - 1;
        }
        for (int next : besides(c)) {
            boolean leave = free || kind == 5 || kind == 4 && then <= 3 || licensed(owner, of, hour, then, next);
            if (leave && !(kind == 3 && s.ground[next] == 1)) {
                walk(seen, next, then, kind, owner, of, hour, free);
            }
        }
    }

    private int[] loudest(boolean[][] seen) {
        int[] loud = new int[seen.length];
        for (int c = 0; c < seen.length; c++) {
            for (int l = 1; l <= 20; l++) {
                if (seen[c][l]) {
                    loud[c] = l;
                }
            }
        }
        return loud;
    }

    private int[] straight(int m, int loud, int hour, boolean free) {
        Maker k = s.makers.get(m);
        boolean[][] seen = new boolean[s.w * s.h][21];
        walk(seen, k.cell, loud, k.kind, k.owner, List.of(m), hour, free);
        return loudest(seen);
    }

    private int[] whole(int m, int loud, int hour) {
        int[] direct = straight(m, loud, hour, false);
        int[] all = direct.clone();
        for (int c = 0; c < all.length; c++) {
            if (s.ground[c] == 2 && c != s.makers.get(m).cell && direct[c] > 0) {
                List<Integer> of = new ArrayList<>();
                for (int i = 0; i < s.makers.size(); i++) {
                    if (s.makers.get(i).owner == s.air[c]) {
                        of.add(i);
                    }
                }
                boolean[][] seen = new boolean[s.w * s.h][21];
                walk(seen, c, direct[c] / 2, 0, s.air[c], of, hour, false);
                int[] echo = loudest(seen);
                for (int d = 0; d < all.length; d++) {
                    all[d] = Math.max(all[d], echo[d]);
                }
            }
        }
        return all;
    }

    int heard(int m, int loud, int hour, int c) {
        if (!sound(m, loud, hour) || !cell(c)) {
            return bad();
        }
        return whole(m, loud, hour)[c];
    }

    private static int cells(int[] loud) {
        int n = 0;
        for (int l : loud) {
            n += l > 0 ? 1 : 0;
        }
        return n;
    }

    int far(int m, int loud, int hour) {
        return sound(m, loud, hour) ? cells(whole(m, loud, hour)) : bad();
    }

    private int costOf(int m, int loud, int hour) {
        int[] direct = straight(m, loud, hour, false);
        int sum = 0;
        for (int c = 0; c < direct.length; c++) {
            sum += direct[c] > 0 && s.air[c] != s.makers.get(m).owner ? s.fees[s.air[c]] : 0;
        }
        return sum;
    }

    int cost(int m, int loud, int hour) {
        return sound(m, loud, hour) ? costOf(m, loud, hour) : bad();
    }

    private static int pick(List<Integer> list, int i) {
        return i == -1 ? list.size() : i < list.size() ? list.get(i) : -5;
    }

    int trespass(int m, int loud, int hour, int i) {
        if (!sound(m, loud, hour) || i < -1) {
            return badAs(-10);
        }
        int[] is = straight(m, loud, hour, false);
        int[] would = straight(m, loud, hour, true);
        List<Integer> list = new ArrayList<>();
        for (int c = 0; c < is.length; c++) {
            if (would[c] > 0 && is[c] == 0) {
                list.add(c);
            }
        }
        return pick(list, i);
    }

    private List<Integer> carriedCells(int m, int loud, int hour) {
        int[] direct = straight(m, loud, hour, false);
        int[] all = whole(m, loud, hour);
        List<Integer> list = new ArrayList<>();
        for (int c = 0; c < all.length; c++) {
            if (all[c] > 0 && direct[c] == 0) {
                list.add(c);
            }
        }
        return list;
    }

    int carried(int m, int loud, int hour, int i) {
        if (!sound(m, loud, hour) || i < -1) {
            return badAs(-10);
        }
        return pick(carriedCells(m, loud, hour), i);
    }

    long mend(int m, int loud, int hour) {
        if (!sound(m, loud, hour)) {
            return badAs(-10);
        }
        List<Integer> cliffs = new ArrayList<>();
        for (int c = 0; c < s.ground.length; c++) {
            if (s.ground[c] == 2) {
                cliffs.add(c);
            }
        }
        if (cliffs.size() > 8) {
            status[1]++;
            return -20;
        }
        long best = -1;
        for (int sub = 0; sub < 1 << cliffs.size(); sub++) {
            long bits = 0;
            for (int i = 0; i < cliffs.size(); i++) {
                if ((sub >> i & 1) == 1) {
                    s.ground[cliffs.get(i)] = 0;
                    bits |= 1L << cliffs.get(i);
                }
            }
            boolean fewer = best == -1 || Long.bitCount(bits) < Long.bitCount(best)
                || Long.bitCount(bits) == Long.bitCount(best) && bits < best;
            if (fewer && carriedCells(m, loud, hour).isEmpty()) {
                best = bits;
            }
            for (int c : cliffs) {
                s.ground[c] = 2;
            }
        }
        return best;
    }

    // ---- leaves, ears

    int ears(int c, int v) {
        if (!cell(c) || !in(v, 0, 2)) {
            return bad();
        }
        int was = s.told[c];
        s.told[c] = v;
        return was;
    }

    private boolean asTold(int[] all) {
        for (int c = 0; c < all.length; c++) {
            if (s.told[c] == 1 && all[c] == 0 || s.told[c] == 2 && all[c] > 0) {
                return false;
            }
        }
        return true;
    }

    int buy(int m, int loud, int hour, int what) {
        if (!sound(m, loud, hour) || !in(what, 0, 1)) {
            return badAs(-10);
        }
        int bestCost = -1;
        int bestBits = -1;
        for (int bits = 63; bits >= 0; bits--) {
            if ((bits >> s.makers.get(m).owner & 1) == 1) {
                continue;
            }
            List<int[]> had = s.leaves;
            s.leaves = State.copyLeaves(had);
            for (int o = 0; o < 6; o++) {
                if ((bits >> o & 1) == 1) {
                    s.leaves.add(new int[] {m, o, 0, 23, 20});
                }
            }
            if (asTold(whole(m, loud, hour))) {
                int c = costOf(m, loud, hour);
                if (bestCost == -1 || c <= bestCost) {
                    bestCost = c;
                    bestBits = bits;
                }
            }
            s.leaves = had;
        }
        return what == 0 ? bestCost : bestBits;
    }

    int who(int hour, int i) {
        if (!in(hour, 0, 23) || i < -1) {
            return badAs(-10);
        }
        List<Integer> list = new ArrayList<>();
        for (int m = 0; m < s.makers.size(); m++) {
            for (int loud = 1; loud <= 20; loud++) {
                if (asTold(whole(m, loud, hour))) {
                    list.add(100 * m + loud);
                }
            }
        }
        return pick(list, i);
    }

    int still(int loud, int hour, int c) {
        if (!in(loud, 1, 20) || !in(hour, 0, 23) || !cell(c)) {
            return bad();
        }
        List<int[]> had = s.leaves;
        int best = -1;
        for (int many = 0; many <= had.size() && best == -1; many++) {
            for (int bits = 0; bits < 1 << had.size() && best == -1; bits++) {
                if (Integer.bitCount(bits) != many) {
                    continue;
                }
                s.leaves = new ArrayList<>();
                for (int i = 0; i < had.size(); i++) {
                    if ((bits >> i & 1) == 0) {
                        s.leaves.add(had.get(i));
                    }
                }
                boolean still = true;
                for (int m = 0; m < s.makers.size() && still; m++) {
                    still = whole(m, loud, hour)[c] == 0;
                }
                best = still ? bits : -1;
            }
        }
        s.leaves = had;
        return best;
    }

    int cry(int m, int loud) {
        if (!isMaker(m) || !in(loud, 0, 20)) {
            return bad();
        }
        int was = s.makers.get(m).cry;
        s.makers.get(m).cry = loud;
        return was;
    }

    /** The shortest of all ways without a maker twice, walked one by one. */
    private int wayFrom(boolean[][] hears, int at, int to, int used) {
        if (at == to) {
            return 1;
        }
        int best = 99;
        for (int next = 0; next < hears.length; next++) {
            if (hears[at][next] && (used >> next & 1) == 0) {
                best = Math.min(best, 1 + wayFrom(hears, next, to, used | 1 << next));
            }
        }
        return best;
    }

    int criers(int a, int b, int hour, int what) {
        if (!isMaker(a) || !isMaker(b) || !in(hour, 0, 23) || !in(what, 0, 1)) {
            return bad();
        }
        int n = s.makers.size();
        boolean[][] hears = new boolean[n][n];
        for (int m = 0; m < n; m++) {
            if (s.makers.get(m).cry > 0) {
                int[] all = whole(m, s.makers.get(m).cry, hour);
                for (int k = 0; k < n; k++) {
                    hears[m][k] = all[s.makers.get(k).cell] > 0;
                }
            }
        }
        int many = wayFrom(hears, a, b, 1 << a);
        if (what == 0) {
            return many > 6 ? -1 : many;
        }
        for (int k = 0; k < n && many <= 6 && a != b; k++) {
            if (k != a && hears[a][k] && 1 + wayFrom(hears, k, b, 1 << a | 1 << k) == many) {
                return k;
            }
        }
        return -1;
    }

    // ---- lets, hours, thunder

    int let(int owner, int to) {
        if (!in(owner, 0, 5) || !in(to, -1, 5) || owner == to) {
            return bad();
        }
        int was = s.lets[owner];
        s.lets[owner] = to;
        return was;
    }

    int liable(int owner) {
        if (!in(owner, 0, 5)) {
            return bad();
        }
        List<Integer> met = new ArrayList<>();
        int at = owner;
        while (s.lets[at] != -1) {
            if (met.contains(at)) {
                return -1;
            }
            met.add(at);
            at = s.lets[at];
        }
        return at;
    }

    int rings() {
        int bits = 0;
        for (int o = 0; o < 6; o++) {
            List<Integer> met = new ArrayList<>();
            int at = s.lets[o];
            while (at != -1 && at != o && !met.contains(at)) {
                met.add(at);
                at = s.lets[at];
            }
            bits |= at == o ? 1 << o : 0;
        }
        return bits;
    }

    int first(int m, int loud, int hour, int c) {
        if (!sound(m, loud, hour) || !cell(c)) {
            return bad();
        }
        for (int h = hour; h < 24; h++) {
            if (whole(m, loud, h)[c] > 0) {
                return h;
            }
        }
        return -1;
    }

    int peal(int m, int hour, int what) {
        if (!isMaker(m) || !in(hour, 0, 23) || !in(what, 0, 1)) {
            return bad();
        }
        int best = 1;
        for (int loud = 20; loud > 0; loud--) {
            if (cells(whole(m, loud, hour)) >= cells(whole(m, best, hour))) {
                best = loud;
            }
        }
        return what == 0 ? best : cells(whole(m, best, hour));
    }

    int thunder(int seed, int n) {
        if (!in(seed, 0, 999999) || !in(n, 0, 60)) {
            return bad();
        }
        boolean[] some = new boolean[s.w * s.h];
        java.math.BigInteger x = java.math.BigInteger.valueOf(seed);
        for (int i = 0; i < n; i++) {
            x = x.multiply(java.math.BigInteger.valueOf(1103515245)).add(java.math.BigInteger.valueOf(12345))
                .mod(java.math.BigInteger.valueOf(2147483648L));
            int c = (int) (x.longValue() / 65536 % (s.w * s.h));
            int loud = (int) (x.longValue() / 4096 % 9 + 1);
            for (int d = 0; d < some.length; d++) {
                int steps = Math.abs(c % s.w - d % s.w) + Math.abs(c / s.w - d / s.w);
                some[d] |= loud - steps > 0;
            }
        }
        int cells = 0;
        for (boolean b : some) {
            cells += b ? 1 : 0;
        }
        return cells;
    }

    // ---- what there is

    int image(int i) {
        if (!in(i, 0, 1)) {
            return bad();
        }
        images[i] = s.copy();
        return 1;
    }

    int from(int i) {
        if (!in(i, 0, 1)) {
            return bad();
        }
        if (images[i] == null) {
            return no();
        }
        s = images[i].copy();
        return 1;
    }

    int status(int what) {
        return in(what, 0, 2) ? status[what] : badAs(-1);
    }

    int count(int what) {
        int[] counts = {s.w, s.h, s.makers.size(), s.leaves.size(), s.past.size(), text.length()};
        return in(what, 0, 5) ? counts[what] : bad();
    }

    long digest() {
        List<Integer> v = new ArrayList<>(List.of(s.w, s.h, s.makers.size(), s.leaves.size(), s.past.size(), text.length()));
        for (int c = 0; c < s.w * s.h; c++) {
            v.addAll(List.of(s.ground[c], s.air[c], s.told[c]));
        }
        for (int f : s.fees) {
            v.add(f);
        }
        for (int l : s.lets) {
            v.add(l);
        }
        for (Maker m : s.makers) {
            v.addAll(List.of(m.kind, m.cell, m.owner, m.cry));
        }
        for (int[] l : s.leaves) {
            for (int p : l) {
                v.add(p);
            }
        }
        long h = 829;
        for (int i : v) {
            h = 31 * h + i;
        }
        return h;
    }
}
