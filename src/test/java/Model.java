import java.math.BigInteger;
import java.util.ArrayList;
import java.util.Arrays;
import java.util.List;

/**
 * The document once more, in the plainest words that the library allows: the random runs hold
 * the program against it. It shares no line with the program, and no trick either: worlds are
 * gone through one by one for each question, chances are summed as the document says them, and
 * a ship tries all ways.
 */
final class Model {
    private static final int NONE = -1, BAD = -2, NO = -3, FULL = -4;

    /** A fraction, made lowest at once. */
    private record Share(BigInteger above, BigInteger below) {
        static final Share ZERO = of(0, 1), ONE = of(1, 1);

        static Share of(BigInteger a, BigInteger b) {
            BigInteger g = a.gcd(b);
            return new Share(a.divide(g), b.divide(g));
        }

        static Share of(long a, long b) {
            return of(BigInteger.valueOf(a), BigInteger.valueOf(b));
        }

        Share times(Share o) {
            return of(above.multiply(o.above), below.multiply(o.below));
        }

        Share plus(Share o) {
            return of(above.multiply(o.below).add(o.above.multiply(below)), below.multiply(o.below));
        }

        Share by(Share o) {
            return of(above.multiply(o.below), below.multiply(o.above));
        }

        Share toThe(int n) {
            Share s = ONE;
            for (int i = 0; i < n; i++) {
                s = s.times(this);
            }
            return s;
        }

        boolean none() {
            return above.signum() == 0;
        }
    }

    private record Item(String word, int month, int place) { }

    private record Told(int fault, List<Item> items) {
        int at(int month) {
            int at = 0;
            for (Item i : items) {
                if (i.month <= month) {
                    switch (i.word) {
                        case "go" -> at = i.place;
                        case "join" -> at = 6;
                        case "die" -> at = 7;
                        default -> { }
                    }
                }
            }
            return at;
        }

        int word() {
            return items.stream().filter(i -> i.word.equals("word")).mapToInt(Item::place).findFirst().orElse(NONE);
        }

        boolean cross() {
            return items.stream().anyMatch(i -> i.word.equals("cross"));
        }
    }

    private static final class Kept {
        List<Integer> feeds = new ArrayList<>();
        List<Integer> people = new ArrayList<>();
        int[] rain = {5, 5, 5, 5, 5, 5, 5, 5, 5, 5};
        int hard = 6, truth = 9;
        int[] each = {100, 100, 100, 100}, carried = {0, 0, 0, 0}, prior = {1, 1, 1, 1};
        String[] text = {"", "", "", ""};
        List<int[]> signs = new ArrayList<>();
        List<int[]> tellers = new ArrayList<>();
        int[] post;
        int[][] days = new int[6][6];
        boolean[] storms = new boolean[60];

        Kept copy() {
            Kept k = new Kept();
            k.feeds.addAll(feeds);
            k.people.addAll(people);
            k.rain = rain.clone();
            k.hard = hard;
            k.truth = truth;
            k.each = each.clone();
            k.carried = carried.clone();
            k.prior = prior.clone();
            k.text = text.clone();
            k.signs.addAll(signs);
            k.tellers.addAll(tellers);
            k.post = post == null ? null : post.clone();
            for (int i = 0; i < 6; i++) {
                k.days[i] = days[i].clone();
            }
            k.storms = storms.clone();
            return k;
        }
    }

    private Kept k = new Kept();
    private final Kept[] images = new Kept[2];
    private Share fraction = Share.ZERO;
    private final int[] refused = new int[3];

    private int bad() {
        refused[0]++;
        return BAD;
    }

    private int bad10() {
        refused[0]++;
        return -10;
    }

    private int no() {
        refused[1]++;
        return NO;
    }

    private int full() {
        refused[2]++;
        return FULL;
    }

    private static boolean in(int v, int a, int b) {
        return a <= v && v <= b;
    }

    private boolean isPlace(int p) {
        return p >= 0 && p < k.feeds.size();
    }

    private boolean isLot(int l) {
        return l >= 0 && l < k.people.size();
    }

    private boolean isWhere(int w) {
        return isPlace(w) || w == 6 || w == 7;
    }

    private static boolean isStory(int s) {
        return in(s, 0, 3);
    }

    int place(int feeds) {
        if (!in(feeds, 0, 200)) return bad();
        if (k.feeds.size() == 6) return full();
        k.feeds.add(feeds);
        return k.feeds.size() - 1;
    }

    int rain(int year, int v) {
        if (!in(year, 0, 9) || !in(v, 0, 9)) return bad();
        int was = k.rain[year];
        k.rain[year] = v;
        return was;
    }

    int lot(int people) {
        if (!in(people, 1, 60)) return bad();
        if (k.people.size() == 4) return full();
        k.people.add(people);
        return k.people.size() - 1;
    }

    int put(int what, int v) {
        int was;
        if (what == 0 && in(v, 0, 9)) {
            was = k.hard;
            k.hard = v;
        } else if (what == 1 && in(v, 1, 9)) {
            was = k.truth;
            k.truth = v;
        } else {
            return bad();
        }
        return was;
    }

    int kind(int kind, int what, int v) {
        if (!in(kind, 0, 3)) return bad();
        int was;
        if (what == 0 && in(v, 1, 999)) {
            was = k.each[kind];
            k.each[kind] = v;
        } else if (what == 1 && in(v, 0, 9)) {
            was = k.carried[kind];
            k.carried[kind] = v;
        } else {
            return bad();
        }
        return was;
    }

    int prior(int story, int v) {
        if (!isStory(story) || !in(v, 1, 9)) return bad();
        int was = k.prior[story];
        k.prior[story] = v;
        return was;
    }

    int type(int story, long v, int n) {
        if (!isStory(story) || !in(n, 1, 8)) return bad();
        if (k.text[story].length() + n > 120) return full();
        String bytes = "";
        long rest = v;
        for (int i = 0; i < n; i++) {
            bytes = (char) (rest & 255) + bytes;
            rest >>>= 8;
        }
        k.text[story] += bytes;
        return k.text[story].length();
    }

    int clear(int story) {
        if (!isStory(story)) return bad();
        int was = k.text[story].length();
        k.text[story] = "";
        return was;
    }

    /** Looks for what may stand at each place of the text; the signs of a token stay together. */
    private Told told(int story) {
        String t = k.text[story];
        List<Item> items = new ArrayList<>();
        int i = 0;
        int lastMonth = 0;
        boolean over = false;
        while (true) {
            i = behindBlanks(t, i);
            if (i == t.length()) return new Told(NONE, items);
            String word = run(t, i, "abcdefghijklmnopqrstuvwxyz");
            boolean leg = word.equals("go") || word.equals("join") || word.equals("die");
            boolean known = leg || word.equals("word") || word.equals("cross");
            boolean again = items.stream().anyMatch(x -> x.word.equals(word));
            if (!known || leg && over || !leg && again) return new Told(i, items);
            i = behindBlanks(t, i + word.length());
            int month = 0;
            int place = 0;
            if (leg) {
                month = number(t, i);
                if (month < lastMonth || month > 119) return new Told(i, items);
                lastMonth = month;
                i = behindBlanks(t, i + run(t, i, "0123456789").length());
            }
            if (word.equals("go") || word.equals("word")) {
                place = number(t, i);
                if (!isPlace(place)) return new Told(i, items);
                i = behindBlanks(t, i + run(t, i, "0123456789").length());
            }
            if (i == t.length() || t.charAt(i) != ';') return new Told(i, items);
            i++;
            over |= word.equals("join") || word.equals("die");
            items.add(new Item(word, month, place));
        }
    }

    private static int behindBlanks(String t, int i) {
        return i + run(t, i, " ").length();
    }

    private static String run(String t, int i, String of) {
        int e = i;
        while (e < t.length() && of.indexOf(t.charAt(e)) >= 0) e++;
        return t.substring(i, e);
    }

    private static int number(String t, int i) {
        String figures = run(t, i, "0123456789");
        return in(figures.length(), 1, 3) ? Integer.parseInt(figures) : NONE;
    }

    int fault(int story) {
        return isStory(story) ? told(story).fault : bad();
    }

    private boolean hasSign(int place, int kind) {
        return k.signs.stream().anyMatch(s -> s[0] == place && s[1] == kind);
    }

    int sign(int place, int kind, int found, int dug) {
        if (!isPlace(place) || !in(kind, 0, 3) || !in(found, 0, 9) || !in(dug, 1, 10)) return bad();
        if (hasSign(place, kind)) return bad();
        if (k.signs.size() == 6) return full();
        k.signs.add(new int[] {place, kind, found, dug});
        return k.signs.size() - 1;
    }

    int post(int word, boolean cross) {
        if (word != NONE && !isPlace(word)) return bad();
        k.post = new int[] {word, cross ? 1 : 0};
        return 1;
    }

    int teller(int source, int lot, int month, int where, int worth) {
        if (!in(source, 0, 5) || !isLot(lot) || !in(month, 0, 119) || !isWhere(where) || !in(worth, 1, 9)) return bad();
        if (k.tellers.size() == 6) return full();
        k.tellers.add(new int[] {source, lot, month, where, worth});
        return k.tellers.size() - 1;
    }

    int at(int story, int month) {
        if (!isStory(story) || !in(month, 0, 119)) return bad();
        Told t = told(story);
        return t.fault != NONE || k.feeds.isEmpty() ? no() : t.at(month);
    }

    private int left(List<Told> lived, int place, int kind) {
        int sum = 0;
        for (int l = 0; l < lived.size(); l++) {
            for (int m = 0; m < 120; m++) {
                if (lived.get(l).at(m) == place) sum += k.people.get(l);
            }
        }
        return Math.min(20, sum / k.each[kind]);
    }

    private int hungerOf(List<Told> lived) {
        int[][] atMonth = new int[120][lived.size()];
        for (int l = 0; l < lived.size(); l++) {
            for (int m = 0; m < 120; m++) atMonth[m][l] = lived.get(l).at(m);
        }
        int sum = 0;
        for (int p = 0; p < k.feeds.size(); p++) {
            for (int y = 0; y < 10; y++) {
                boolean some = false;
                for (int m = 12 * y; m < 12 * y + 12; m++) {
                    int heads = 0;
                    for (int l = 0; l < lived.size(); l++) {
                        if (atMonth[m][l] == p) heads += k.people.get(l);
                    }
                    some |= heads > fedOf(p, y);
                }
                if (some) sum++;
            }
        }
        return sum;
    }

    private int fedOf(int place, int year) {
        return k.feeds.get(place) * k.rain[year] / 5;
    }

    private List<Told> allLive(int story) {
        List<Told> lived = new ArrayList<>();
        for (int l = 0; l < k.people.size(); l++) lived.add(told(story));
        return lived;
    }

    int must(int story, int place, int kind) {
        if (!isStory(story) || !isPlace(place) || !in(kind, 0, 3)) return bad();
        return told(story).fault != NONE ? no() : left(allLive(story), place, kind);
    }

    int hunger(int story) {
        if (!isStory(story)) return bad();
        return told(story).fault != NONE || k.feeds.isEmpty() ? no() : hungerOf(allLive(story));
    }

    private static Share chance(int n, int c, int d, int a) {
        Share sum = Share.ZERO;
        for (int j = 0; j <= Math.min(c, n); j++) {
            BigInteger of = BigInteger.ONE;
            for (int i = 0; i < j; i++) {
                of = of.multiply(BigInteger.valueOf(n - i)).divide(BigInteger.valueOf(i + 1));
            }
            BigInteger dug = of.multiply(BigInteger.valueOf(d).pow(j)).multiply(BigInteger.valueOf(10 - d).pow(n - j));
            BigInteger carried = BigInteger.valueOf(a).pow(c - j).multiply(BigInteger.valueOf(10 - a));
            sum = sum.plus(Share.of(dug.multiply(carried), BigInteger.TEN.pow(n + c - j + 1)));
        }
        return sum;
    }

    private Share weight(int[] world, List<Told> stories) {
        List<Told> lived = new ArrayList<>();
        Share w = Share.ONE;
        for (int s : world) {
            lived.add(stories.get(s));
            w = w.times(Share.of(k.prior[s], 1));
        }
        w = w.times(Share.of(k.hard, 9).toThe(hungerOf(lived)));
        for (int[] s : k.signs) {
            w = w.times(chance(left(lived, s[0], s[1]), s[2], s[3], k.carried[s[1]]));
        }
        if (k.post != null && world.length > 0) {
            w = w.times(Share.of(lived.get(0).word() == k.post[0] ? k.truth : 10 - k.truth, 10));
            w = w.times(Share.of(lived.get(0).cross() == (k.post[1] == 1) ? k.truth : 10 - k.truth, 10));
        }
        List<Integer> heard = new ArrayList<>();
        for (int[] t : k.tellers) {
            if (!heard.contains(t[0])) {
                heard.add(t[0]);
                w = w.times(Share.of(lived.get(t[1]).at(t[2]) == t[3] ? t[4] : 10 - t[4], 10));
            }
        }
        return w;
    }

    private record World(int[] stories, Share weight) { }

    private interface Asked {
        boolean holds(int[] stories);
    }

    private List<Told> stories;

    /** All worlds of some weight; none, if there are no places. */
    private List<World> worlds() {
        List<World> all = new ArrayList<>();
        stories = List.of(told(0), told(1), told(2), told(3));
        if (!k.feeds.isEmpty()) addWorlds(new int[0], all);
        return all;
    }

    private void addWorlds(int[] begun, List<World> all) {
        if (begun.length == k.people.size()) {
            Share w = weight(begun, stories);
            if (!w.none()) all.add(new World(begun, w));
            return;
        }
        for (int s = 0; s < 4; s++) {
            if (stories.get(s).fault == NONE) {
                int[] more = Arrays.copyOf(begun, begun.length + 1);
                more[begun.length] = s;
                addWorlds(more, all);
            }
        }
    }

    private static Share sum(List<World> worlds, Asked asked) {
        Share s = Share.ZERO;
        for (World w : worlds) {
            if (asked.holds(w.stories)) s = s.plus(w.weight);
        }
        return s;
    }

    private int ask(Asked asked) {
        List<World> worlds = worlds();
        if (worlds.isEmpty()) return no();
        fraction = sum(worlds, asked).by(sum(worlds, w -> true));
        return 1;
    }

    private Asked allDo(int story) {
        return w -> stories.get(story).fault == NONE && Arrays.stream(w).allMatch(s -> s == story);
    }

    int odds(int lot, int story) {
        return isLot(lot) && isStory(story) ? ask(w -> w[lot] == story) : bad();
    }

    int all(int story) {
        return isStory(story) ? ask(w -> allDo(story).holds(w)) : bad();
    }

    int where(int lot, int month, int where) {
        if (!isLot(lot) || !in(month, 0, 119) || !isWhere(where)) return bad();
        return ask(w -> stories.get(w[lot]).at(month) == where);
    }

    int so(int teller) {
        if (!in(teller, 0, k.tellers.size() - 1)) return bad();
        int[] t = k.tellers.get(teller);
        return ask(w -> stories.get(w[t[1]]).at(t[2]) == t[3]);
    }

    int lost(int lot) {
        if (!isLot(lot)) return bad();
        List<World> worlds = worlds();
        if (worlds.isEmpty()) return no();
        long dead = worlds.stream().filter(w -> stories.get(w.stories[lot]).at(119) == 7).count();
        return dead == 0 ? 0 : dead == worlds.size() ? 1 : 2;
    }

    int next() {
        List<World> worlds = worlds();
        if (worlds.isEmpty()) return no();
        int best = NONE;
        int greatest = 0;
        for (int p = 0; p < k.feeds.size(); p++) {
            for (int kind = 0; kind < 4; kind++) {
                for (int s = 0; s < 4; s++) {
                    for (int r = 0; r < 4; r++) {
                        if (sum(worlds, allDo(s)).none() || sum(worlds, allDo(r)).none() || hasSign(p, kind)) continue;
                        int difference = left(allLive(s), p, kind) - left(allLive(r), p, kind);
                        if (difference > greatest) {
                            greatest = difference;
                            best = 10 * p + kind;
                        }
                    }
                }
            }
        }
        return best;
    }

    int fed(int place, int year) {
        return isPlace(place) && in(year, 0, 9) ? fedOf(place, year) : bad();
    }

    int dry(int place, int n, int what) {
        if (!isPlace(place) || !in(n, 0, 999) || !in(what, 0, 1)) return bad10();
        for (int length = 10; length > 0; length--) {
            for (int y = 0; y + length <= 10; y++) {
                boolean all = true;
                for (int i = y; i < y + length; i++) all &= fedOf(place, i) < n;
                if (all) return what == 0 ? y : length;
            }
        }
        return what == 0 ? NONE : 0;
    }

    int many(int kind, int c, int months, int what) {
        if (!in(kind, 0, 3) || !in(c, 0, 20) || !in(months, 1, 120) || !in(what, 0, 1)) return bad10();
        int few = NONE;
        int most = NONE;
        for (int people = 0; people <= 999; people++) {
            if (people * months / k.each[kind] == c) {
                if (few == NONE) few = people;
                most = people;
            }
        }
        return what == 0 ? few : most;
    }

    int stone(int p, int n, int kRight, int t, int f) {
        if (!in(p, 0, 10) || !in(n, 1, 12) || !in(kRight, 0, n) || !in(t, 1, 9) || !in(f, 1, 9)) return bad();
        Share forged = Share.of(p, 10).times(Share.of(f, 10).toThe(kRight)).times(Share.of(10 - f, 10).toThe(n - kRight));
        Share real = Share.of(10 - p, 10).times(Share.of(t, 10).toThe(kRight)).times(Share.of(10 - t, 10).toThe(n - kRight));
        fraction = forged.by(forged.plus(real));
        return 1;
    }

    int days(int a, int b, int n) {
        if (!isPlace(a) || !isPlace(b) || a == b || !in(n, 0, 20)) return bad();
        int was = k.days[a][b];
        k.days[a][b] = n;
        k.days[b][a] = n;
        return was;
    }

    int storm(int day, boolean is) {
        if (!in(day, 0, 59)) return bad();
        if (k.storms[day] == is) return no();
        k.storms[day] = is;
        return 1;
    }

    private int tryAllWays(int from, int to, int day, int seen) {
        if (from == to) return day;
        int best = NONE;
        for (int p = 0; p < k.feeds.size(); p++) {
            if ((seen >> p & 1) == 0 && k.days[from][p] > 0) {
                int d = day;
                for (int left = k.days[from][p]; left > 0; d++) {
                    if (d >= 60 || !k.storms[d]) left--;
                }
                int there = tryAllWays(p, to, d, seen | 1 << p);
                if (there != NONE && (best == NONE || there < best)) best = there;
            }
        }
        return best;
    }

    int sails(int from, int to, int day) {
        if (!isPlace(from) || !isPlace(to) || !in(day, 0, 59)) return bad10();
        return tryAllWays(from, to, day, 1 << from);
    }

    int back(int from, int to, int day, int stay, int last) {
        if (!isPlace(from) || !isPlace(to) || !in(day, 0, 59) || !in(stay, 0, 59) || !in(last, 0, 999)) return bad();
        int there = tryAllWays(from, to, day, 1 << from);
        return there != NONE && tryAllWays(to, from, there + stay, 1 << to) <= last ? 1 : 0;
    }

    private static int limbs(BigInteger b) {
        return (b.bitLength() + 29) / 30;
    }

    private static int limbOf(BigInteger b, int i) {
        return b.shiftRight(30 * i).and(BigInteger.valueOf((1 << 30) - 1)).intValue();
    }

    int part(int what) {
        return switch (what) {
            case 0 -> fraction.above.signum();
            case 1 -> limbs(fraction.above);
            case 2 -> limbs(fraction.below);
            default -> bad();
        };
    }

    int limb(int which, int i) {
        if (!in(which, 0, 1) || i < 0) return bad();
        BigInteger b = which == 0 ? fraction.above : fraction.below;
        return i < limbs(b) ? limbOf(b, i) : NONE;
    }

    int image(int i) {
        if (!in(i, 0, 1)) return bad();
        images[i] = k.copy();
        return 1;
    }

    int from(int i) {
        if (!in(i, 0, 1)) return bad();
        if (images[i] == null) return no();
        k = images[i].copy();
        return 1;
    }

    int status(int what) {
        if (in(what, 0, 2)) return refused[what];
        refused[0]++;
        return -1;
    }

    int count(int what) {
        return switch (what) {
            case 0 -> k.feeds.size();
            case 1 -> k.people.size();
            case 2 -> k.signs.size();
            case 3 -> k.tellers.size();
            case 4, 5, 6, 7 -> k.text[what - 4].length();
            default -> bad();
        };
    }

    long digest() {
        List<Integer> v = new ArrayList<>();
        for (int i = 0; i < 8; i++) v.add(count(i));
        v.addAll(k.feeds);
        for (int r : k.rain) v.add(r);
        v.addAll(k.people);
        v.add(k.hard);
        v.add(k.truth);
        for (int i = 0; i < 4; i++) {
            v.add(k.each[i]);
            v.add(k.carried[i]);
        }
        for (int i = 0; i < 4; i++) {
            v.add(k.prior[i]);
            for (char c : k.text[i].toCharArray()) v.add((int) c);
        }
        for (int[] s : k.signs) for (int x : s) v.add(x);
        v.add(k.post == null ? 0 : 1);
        v.add(k.post == null ? NONE : k.post[0]);
        v.add(k.post == null ? 0 : k.post[1]);
        for (int[] t : k.tellers) for (int x : t) v.add(x);
        for (int a = 0; a < k.feeds.size(); a++) for (int b = 0; b < a; b++) v.add(k.days[a][b]);
        for (boolean s : k.storms) v.add(s ? 1 : 0);
        for (int i = 0; i < 3; i++) v.add(part(i));
        for (int i = 0; i < limbs(fraction.above); i++) v.add(limbOf(fraction.above, i));
        for (int i = 0; i < limbs(fraction.below); i++) v.add(limbOf(fraction.below, i));
        long h = 569;
        for (int x : v) h = 31 * h + x;
        return h;
    }
}
