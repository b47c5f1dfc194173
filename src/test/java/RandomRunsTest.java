import java.util.Random;

/** Long runs of random calls, each answer held against the model's. The seeds are fixed. */
public final class RandomRunsTest {
    private static final String[] WORDS = {"go", "join", "die", "word", "cross"};

    private final long seed;
    private final Random random;
    private final WordOnPost real = new WordOnPost();
    private final Model model = new Model();
    private final StringBuilder log = new StringBuilder();
    private int calls;
    private boolean wrong;

    private RandomRunsTest(long seed) {
        this.seed = seed;
        this.random = new Random(seed);
    }

    public static void main(String[] args) {
        int runs = args.length > 0 ? Integer.parseInt(args[0]) : 240;
        long first = args.length > 1 ? Long.parseLong(args[1]) : 1;
        int wrongRuns = 0;
        for (long seed = first; seed < first + runs && wrongRuns < 3; seed++) {
            RandomRunsTest run = new RandomRunsTest(seed);
            run.go();
            if (run.wrong) wrongRuns++;
        }
        System.out.println(runs + " random runs: " + wrongRuns + " wrong");
        if (wrongRuns > 0) System.exit(1);
    }

    private void due(String call, long got, long want) {
        calls++;
        log.append(call).append(" = ").append(want).append('\n');
        if (got != want && !wrong) {
            wrong = true;
            System.out.println("seed " + seed + ":\n" + log + "but it answered " + got);
        }
    }

    /** A number of a .. b, now and then one beside it. */
    private int near(int a, int b) {
        int dice = random.nextInt(40);
        if (dice == 0) return a - 1;
        if (dice == 1) return b + 1;
        if (dice == 2) return a;
        if (dice == 3) return b;
        if (dice == 4 && random.nextInt(4) == 0) return random.nextInt();
        return a + random.nextInt(Math.max(1, b - a + 1));
    }

    private int aPlace() {
        return near(0, Math.max(0, model.count(0) - 1));
    }

    private int aLot() {
        return near(0, Math.max(0, model.count(1) - 1));
    }

    private int aWhere() {
        return random.nextBoolean() ? aPlace() : near(6, 7);
    }

    private void go() {
        if (seed % 4 == 0) {
            goHeavy();
        } else {
            goAnyhow();
        }
    }

    /** Worlds of great weights: much left and found, carried things, hunger, and no faults. */
    private void goHeavy() {
        int lots = random.nextInt(5) == 0 ? 4 : 2 + random.nextInt(2);
        for (int i = 0; i < 6; i++) place(random.nextInt(70));
        for (int i = 0; i < lots; i++) lot(1 + random.nextInt(60));
        for (int s = 0; s < 4; s++) {
            StringBuilder b = new StringBuilder();
            for (int month = random.nextInt(20); month < 120 && b.length() < 105; month += 1 + random.nextInt(25)) {
                b.append("go").append(month).append(' ').append(random.nextInt(6)).append(';');
            }
            if (random.nextInt(3) == 0) b.append("word").append(random.nextInt(6)).append(';');
            typeAll(s, b.toString());
        }
        for (int k = 0; k < 4; k++) {
            int each = 30 + random.nextInt(150), carried = 1 + random.nextInt(9);
            due("kind(" + k + ", 0, " + each + ")", real.kind(k, 0, each), model.kind(k, 0, each));
            due("kind(" + k + ", 1, " + carried + ")", real.kind(k, 1, carried), model.kind(k, 1, carried));
        }
        int hard = 5 + random.nextInt(4);
        due("put(0, " + hard + ")", real.put(0, hard), model.put(0, hard));
        for (int i = 0; i < 3 + random.nextInt(4); i++) sign(i, random.nextInt(4), 5 + random.nextInt(5), 1 + random.nextInt(9));
        for (int i = 0; i < 6; i++) said();
        for (int i = 0; i < 30 && !wrong; i++) {
            ask();
            int year = random.nextInt(10), rain = random.nextInt(10);
            due("rain(" + year + ", " + rain + ")", real.rain(year, rain), model.rain(year, rain));
        }
        while (calls < 300 && !wrong) step();
    }

    private void goAnyhow() {
        int places = random.nextInt(20) == 0 ? 0 : 1 + random.nextInt(6);
        int lots = random.nextInt(12) == 0 ? 4 : random.nextInt(12) == 0 ? 0 : 1 + random.nextInt(3);
        boolean rich = random.nextBoolean();
        for (int i = 0; i < places; i++) place(rich ? 100 + random.nextInt(101) : near(0, 200));
        for (int i = 0; i < lots; i++) lot(near(1, 60));
        for (int s = 0; s < 4; s++) text(s);
        while (calls < 512 && !wrong) step();
    }

    private void step() {
        int dice = random.nextInt(100);
        if (dice < 4) text(near(0, 3));
        else if (dice < 20) world();
        else if (dice < 24) sign();
        else if (dice < 30) said();
        else if (dice < 40) story();
        else if (dice < 58) ask();
        else if (dice < 76) yearsAndThings();
        else if (dice < 86) ships();
        else whatThereIs();
    }

    private void place(int v) {
        due("place(" + v + ")", real.place(v), model.place(v));
    }

    private void lot(int v) {
        due("lot(" + v + ")", real.lot(v), model.lot(v));
    }

    private void text(int story) {
        if (random.nextInt(4) > 0) due("clear(" + story + ")", real.clear(story), model.clear(story));
        typeAll(story, random.nextInt(6) == 0 ? someSigns() : someItems());
    }

    private void typeAll(int story, String text) {
        for (int i = 0; i < text.length();) {
            int n = Math.min(1 + random.nextInt(8), text.length() - i);
            long v = random.nextInt(3) == 0 ? random.nextLong() : 0;
            for (int j = 0; j < n; j++) v = v << 8 | text.charAt(i + j);
            type(story, v, n);
            i += n;
        }
        due("fault(" + story + ")", real.fault(story), model.fault(story));
    }

    private void type(int story, long v, int n) {
        due("type(" + story + ", " + v + "L, " + n + ")", real.type(story, v, n), model.type(story, v, n));
    }

    private String blanks(boolean needed) {
        String b = needed ? " " : "";
        while (random.nextInt(6) == 0) b += " ";
        return b;
    }

    private String number(int v) {
        String n = "" + v;
        while (n.length() < 4 && random.nextInt(12) == 0) n = "0" + n;
        return n;
    }

    private String someItems() {
        StringBuilder b = new StringBuilder(blanks(false));
        int month = 0;
        int items = random.nextInt(6);
        int places = Math.max(1, model.count(0));
        boolean tight = random.nextBoolean();
        if (random.nextInt(8) == 0) items = 20;
        for (int i = 0; i < items; i++) {
            String word = WORDS[i < items - 1 && random.nextInt(8) > 0 ? random.nextInt(2) * 3 : random.nextInt(5)];
            if (random.nextInt(5) > 0 && i < items - 1) word = "go";
            b.append(word).append(blanks(!tight));
            if (word.equals("go") || word.equals("join") || word.equals("die")) {
                month += random.nextInt(tight ? 10 : 30);
                if (random.nextInt(40) == 0) month -= 5;
                b.append(number(Math.max(0, month))).append(blanks(word.equals("go") || !tight));
            }
            if (word.equals("go") || word.equals("word")) {
                b.append(number(random.nextInt(60) == 0 ? places : random.nextInt(places))).append(blanks(false));
            }
            b.append(random.nextInt(60) == 0 ? "" : ";").append(blanks(false));
        }
        if (random.nextInt(15) == 0 && b.length() > 0) b.setLength(random.nextInt(b.length()));
        if (random.nextInt(25) == 0 && b.length() > 0) b.setCharAt(random.nextInt(b.length()), (char) random.nextInt(256));
        if (b.length() > 120 && random.nextInt(4) > 0) b.setLength(b.substring(0, 120).lastIndexOf(';') + 1);
        return b.toString();
    }

    private String someSigns() {
        String[] parts = {"go", "join", "die", "word", "cross", ";", " ", "0", "1", "119", "120", "1200", "g", "xcross",
            "crosscross", "worddie", "A", "{", "`", "/", ":", "\u00ff", "\u0000", "\u00e9"};
        StringBuilder b = new StringBuilder();
        for (int i = random.nextInt(8); i > 0; i--) b.append(parts[random.nextInt(parts.length)]);
        return b.toString();
    }

    private void world() {
        switch (random.nextInt(7)) {
            case 0 -> place(near(0, 200));
            case 1 -> {
                if (random.nextInt(4) == 0) lot(near(1, 60));
            }
            case 2 -> {
                int a = near(0, 9), b = near(0, 9);
                due("rain(" + a + ", " + b + ")", real.rain(a, b), model.rain(a, b));
            }
            case 3 -> {
                int a = near(0, 1), b = near(a, 9);
                due("put(" + a + ", " + b + ")", real.put(a, b), model.put(a, b));
            }
            case 4, 5 -> {
                int a = near(0, 3), b = near(0, 1), c = b == 1 ? near(0, 9) : random.nextInt(3) == 0 ? near(1, 999) : near(1, 300);
                due("kind(" + a + ", " + b + ", " + c + ")", real.kind(a, b, c), model.kind(a, b, c));
            }
            default -> {
                int a = near(0, 3), b = near(1, 9);
                due("prior(" + a + ", " + b + ")", real.prior(a, b), model.prior(a, b));
            }
        }
    }

    private void sign() {
        sign(aPlace(), near(0, 3), near(0, 9), near(1, 10));
    }

    private void sign(int a, int b, int c, int d) {
        due("sign(" + a + ", " + b + ", " + c + ", " + d + ")", real.sign(a, b, c, d), model.sign(a, b, c, d));
    }

    private void said() {
        if (random.nextInt(3) == 0) {
            int a = random.nextInt(3) == 0 ? -1 : aPlace();
            boolean b = random.nextBoolean();
            due("post(" + a + ", " + b + ")", real.post(a, b), model.post(a, b));
        } else {
            int a = near(0, 5), b = aLot(), c = near(0, 119), d = aWhere(), e = near(1, 9);
            due("teller(" + a + ", " + b + ", " + c + ", " + d + ", " + e + ")",
                    real.teller(a, b, c, d, e), model.teller(a, b, c, d, e));
        }
    }

    private void story() {
        int s = near(0, 3);
        switch (random.nextInt(4)) {
            case 0 -> {
                int m = near(0, 119);
                due("at(" + s + ", " + m + ")", real.at(s, m), model.at(s, m));
            }
            case 1 -> {
                int p = aPlace(), k = near(0, 3);
                due("must(" + s + ", " + p + ", " + k + ")", real.must(s, p, k), model.must(s, p, k));
            }
            case 2 -> due("hunger(" + s + ")", real.hunger(s), model.hunger(s));
            default -> due("fault(" + s + ")", real.fault(s), model.fault(s));
        }
    }

    private void ask() {
        int s = near(0, 3);
        int l = aLot();
        switch (random.nextInt(6)) {
            case 0 -> due("odds(" + l + ", " + s + ")", real.odds(l, s), model.odds(l, s));
            case 1 -> due("all(" + s + ")", real.all(s), model.all(s));
            case 2 -> {
                int m = near(0, 119), w = aWhere();
                due("where(" + l + ", " + m + ", " + w + ")", real.where(l, m, w), model.where(l, m, w));
            }
            case 3 -> {
                int t = near(0, Math.max(0, model.count(3) - 1));
                due("so(" + t + ")", real.so(t), model.so(t));
            }
            case 4 -> due("lost(" + l + ")", real.lost(l), model.lost(l));
            default -> due("next()", real.next(), model.next());
        }
        due("digest()", real.digest(), model.digest());
    }

    private void yearsAndThings() {
        switch (random.nextInt(4)) {
            case 0 -> {
                int a = aPlace(), b = near(0, 9);
                due("fed(" + a + ", " + b + ")", real.fed(a, b), model.fed(a, b));
            }
            case 1 -> {
                int a = aPlace(), b = random.nextBoolean() ? near(0, 999) : near(0, 200), c = near(0, 1);
                due("dry(" + a + ", " + b + ", " + c + ")", real.dry(a, b, c), model.dry(a, b, c));
            }
            case 2 -> {
                int a = near(0, 3), b = near(0, 20), c = random.nextBoolean() ? near(1, 120) : near(1, 5), d = near(0, 1);
                due("many(" + a + ", " + b + ", " + c + ", " + d + ")", real.many(a, b, c, d), model.many(a, b, c, d));
            }
            default -> {
                int a = near(0, 10), b = near(1, 12), c = near(0, b), d = near(1, 9), e = near(1, 9);
                due("stone(" + a + ", " + b + ", " + c + ", " + d + ", " + e + ")",
                        real.stone(a, b, c, d, e), model.stone(a, b, c, d, e));
            }
        }
    }

    private void ships() {
        int a = aPlace(), b = aPlace(), day = near(0, 59);
        switch (random.nextInt(4)) {
            case 0 -> {
                int n = near(0, 20);
                due("days(" + a + ", " + b + ", " + n + ")", real.days(a, b, n), model.days(a, b, n));
            }
            case 1 -> {
                boolean is = random.nextInt(3) > 0;
                due("storm(" + day + ", " + is + ")", real.storm(day, is), model.storm(day, is));
            }
            case 2 -> due("sails(" + a + ", " + b + ", " + day + ")", real.sails(a, b, day), model.sails(a, b, day));
            default -> {
                int stay = near(0, 59);
                int there = model.sails(a, b, day);
                real.sails(a, b, day);
                int last = there < 0 || random.nextInt(3) == 0 ? near(0, 999) : there + stay + random.nextInt(40);
                due("back(" + a + ", " + b + ", " + day + ", " + stay + ", " + last + ")",
                        real.back(a, b, day, stay, last), model.back(a, b, day, stay, last));
            }
        }
    }

    private void whatThereIs() {
        int i = near(0, 1);
        switch (random.nextInt(8)) {
            case 0 -> {
                int a = near(0, 2);
                due("part(" + a + ")", real.part(a), model.part(a));
            }
            case 1, 2 -> {
                int a = near(0, 1), b = near(0, 4);
                due("limb(" + a + ", " + b + ")", real.limb(a, b), model.limb(a, b));
            }
            case 3 -> due("image(" + i + ")", real.image(i), model.image(i));
            case 4 -> {
                if (random.nextInt(3) == 0) due("from(" + i + ")", real.from(i), model.from(i));
            }
            case 5 -> {
                int a = near(0, 2);
                due("status(" + a + ")", real.status(a), model.status(a));
            }
            case 6 -> {
                int a = near(0, 7);
                due("count(" + a + ")", real.count(a), model.count(a));
            }
            default -> due("digest()", real.digest(), model.digest());
        }
    }
}
