import java.math.BigInteger;

/**
 * Promises 31 to 37: each sentence of the document that names a boundary case. A comment ahead of
 * the checks says the sentence in the document's words; a label says what was done.
 */
public final class EdgesOfRestTest extends Due {
    public static void main(String[] args) {
        part();
        limb();
        limbOfGreatNumbers();
        image();
        from();
        fromKeepsFractionAndStatus();
        fromKeepsImages();
        fromOfEach();
        fromForgetsChances();
        status();
        statusOfEachReason();
        count();
        digestOfNew();
        digestOfFull();
        digestOfEach();
        digestOfBytes();
        lastCall();
        end("edges of the rest");
    }

    private static void part() {
        promise = "31 part";
        WordOnPost x = new WordOnPost();
        // THE FRACTION is 0 by 1 at first
        due("sign of 0", x.part(0), 0);
        due("no limbs above", x.part(1), 0);
        due("one limb below", x.part(2), 1);
        bad(x, "part(-1)", () -> x.part(-1));
        bad(x, "part(3)", () -> x.part(3));
        x.stone(10, 1, 1, 1, 1);
        due("sign of 1", x.part(0), 1);
        due("one limb above", x.part(1), 1);
        due("one limb below", x.part(2), 1);
        // lowest terms, below above 0: 0 again is 0 by 1
        x.stone(0, 12, 12, 9, 1);
        due("sign of 0 again", x.part(0), 0);
        due("no limbs above again", x.part(1), 0);
        due("one limb below again", x.part(2), 1);
        // 9 to the 9 is below 1073741824, 9 to the 10 above
        x.stone(5, 9, 9, 9, 1);
        due("1 by 387420490", x.part(2), 1);
        x.stone(5, 10, 10, 9, 1);
        due("1 by 3486784402", x.part(2), 2);
        due("one limb above", x.part(1), 1);
        x.stone(5, 10, 10, 1, 9);
        due("two limbs above", x.part(1), 2);
    }

    private static void limb() {
        promise = "32 limb";
        WordOnPost x = new WordOnPost();
        // NONE: not so many
        due("above of 0", x.limb(0, 0), NONE);
        due("below of 0 by 1", x.limb(1, 0), 1);
        due("below of 0 by 1, a limb more", x.limb(1, 1), NONE);
        due("the greatest i", x.limb(1, Integer.MAX_VALUE), NONE);
        due("the greatest i above", x.limb(0, Integer.MAX_VALUE), NONE);
        // BAD: i below 0, too
        bad(x, "i -1", () -> x.limb(0, -1));
        bad(x, "i -1 below", () -> x.limb(1, -1));
        bad(x, "the least i", () -> x.limb(1, Integer.MIN_VALUE));
        bad(x, "which -1", () -> x.limb(-1, 0));
        bad(x, "which 2", () -> x.limb(2, 0));
        bad(x, "which 2, i far away", () -> x.limb(2, 99));
        // nothing is left of a longer one
        x.stone(5, 12, 12, 1, 9);
        due("two limbs above", x.part(1), 2);
        x.stone(0, 1, 1, 1, 1);
        due("none above", x.limb(0, 0), NONE);
        due("none above", x.limb(0, 1), NONE);
        due("1 below", x.limb(1, 0), 1);
        due("no more below", x.limb(1, 1), NONE);
    }

    private static void limbOfGreatNumbers() {
        promise = "32 limb, many of them";
        // digits to the base 1073741824, the lowest first: six signs of 20 left or of none, 1 of 10 dug
        WordOnPost x = withPlaces(2);
        x.lot(1);
        texts(x, "", "go 0 1;", "?", "?");
        BigInteger stay = BigInteger.ONE;
        BigInteger go = BigInteger.ONE;
        for (int kind = 0; kind < 4; kind++) {
            x.kind(kind, 0, 1);
            x.sign(0, kind, 0, 1 + kind);
            stay = stay.multiply(power(9 - kind, 20));
            go = go.multiply(power(10, 20));
        }
        x.odds(0, 0);
        fraction(x, "four signs of one PLACE", stay, stay.add(go));
        // the two of the other one weigh the other way: 20 left there if he goes
        x.sign(1, 0, 0, 3);
        x.sign(1, 1, 0, 7);
        stay = stay.multiply(power(10, 40));
        go = go.multiply(power(7, 20)).multiply(power(3, 20));
        x.odds(0, 1);
        fraction(x, "six signs", go, stay.add(go));
        due("the highest one is not 0", x.limb(1, x.part(2) - 1) > 0 ? 1 : 0, 1);
        due("then none", x.limb(1, x.part(2)), NONE);
    }

    private static void image() {
        promise = "33 image";
        WordOnPost x = new WordOnPost();
        // IMAGES 0, 1
        bad(x, "image(-1)", () -> x.image(-1));
        bad(x, "image(2)", () -> x.image(2));
        no(x, "none was kept", () -> x.from(0));
        due("of a new object", x.image(0), 1);
        due("that one", x.from(0), 1);
        no(x, "not the other", () -> x.from(1));
        due("the other", x.image(1), 1);
        x.place(7);
        due("kept once more", x.image(0), 1);
        x.place(8);
        due("and once more", x.image(0), 1);
        x.from(1);
        due("the other one is as it was kept", x.count(0), 0);
        x.from(0);
        due("the last one counts", x.count(0), 2);
    }

    private static void from() {
        promise = "34 from";
        WordOnPost x = new WordOnPost();
        // NO: none was kept
        no(x, "from(0)", () -> x.from(0));
        no(x, "from(1)", () -> x.from(1));
        bad(x, "from(-1)", () -> x.from(-1));
        bad(x, "from(2)", () -> x.from(2));
        x.image(1);
        no(x, "not that one", () -> x.from(0));
        due("that one", x.from(1), 1);
        due("and again", x.from(1), 1);
        bad(x, "from(2) is BAD still", () -> x.from(2));
    }

    private static void fromKeepsFractionAndStatus() {
        promise = "34 from, THE FRACTION and STATUS";
        // IMAGES keep all but them, THE FRACTION and STATUS
        WordOnPost x = new WordOnPost();
        x.stone(5, 1, 0, 9, 1);
        x.place(-1);
        x.image(0);
        x.stone(5, 1, 0, 1, 9);
        x.place(-1);
        x.from(1);
        for (int lot = 0; lot < 5; lot++) {
            x.lot(1);
        }
        due("from(0)", x.from(0), 1);
        fraction(x, "the one from behind the IMAGE", 1, 10);
        refused(x, 2, 1, 1);
        due("the LOTS are gone", x.count(1), 0);
    }

    private static void fromKeepsImages() {
        promise = "34 from, IMAGES";
        WordOnPost x = new WordOnPost();
        x.image(0);
        x.place(1);
        x.image(1);
        // going on from one that was kept ahead of the other leaves the other there
        x.from(0);
        due("from(1)", x.from(1), 1);
        due("one PLACE", x.count(0), 1);
        x.from(0);
        due("none", x.count(0), 0);
        x.place(5);
        x.place(6);
        due("what comes now does not change an IMAGE", x.from(0), 1);
        due("none again", x.count(0), 0);
        x.from(1);
        x.rain(3, 9);
        x.days(0, 0, 0);
        x.from(1);
        due("as it was kept", x.rain(3, 5), 5);
    }

    /** Each call that changes something, held against an IMAGE from ahead of it. */
    private static void fromOfEach() {
        promise = "34 from, each of all";
        WordOnPost x = full();
        x.image(0);
        long digest = x.digest();
        for (int change = 0; change < 20; change++) {
            due("change " + change + " shows", change(x, change) == digest ? 1 : 0, 0);
            due("from(0)", x.from(0), 1);
            due("change " + change + " is gone", x.digest(), digest);
        }
    }

    /** A SIGN that takes the number of another one has chances of its own, by FOUND, DUG and CARRIED. */
    private static void fromForgetsChances() {
        promise = "34 from, another SIGN of the same number";
        // one after the other: up, down, far apart, and one number up with another one down
        for (int step : new int[] {1, 999, 7, 10, 111, 9, 99, 90}) {
            WordOnPost x = null;
            for (int i = 0; i < 1000; i++) {
                if (i % 60 == 0) {
                    x = stayOrGo();
                }
                anotherSign(x, i * step % 1000);
            }
        }
    }

    private static void anotherSign(WordOnPost x, int v) {
        int found = v / 100;
        int dug = 1 + v / 10 % 10;
        int carried = v % 10;
        WordOnPost fresh = stayOrGo();
        x.from(0);
        int share = 0;
        for (WordOnPost each : new WordOnPost[] {x, fresh}) {
            each.kind(1, 1, carried);
            each.sign(0, 1, found, dug);
            share = each.all(0);
        }
        String call = "FOUND " + found + ", DUG " + dug + ", CARRIED " + carried;
        // where no WORLD has some WEIGHT, THE FRACTION is the one ahead
        if (share == 1) {
            due(call, x.digest(), fresh.digest());
        } else {
            due(call, x.all(0), NO);
        }
    }

    /** Two left of KIND 1 at PLACE 0, or none; IMAGE 0 is of that. */
    private static WordOnPost stayOrGo() {
        WordOnPost x = withPlaces(2);
        x.lot(1);
        x.kind(1, 0, 60);
        texts(x, "", "go 0 1;", "?", "?");
        x.image(0);
        return x;
    }

    /** As much as fits in it, but one of each. */
    private static WordOnPost full() {
        WordOnPost x = new WordOnPost();
        for (int place = 0; place < 5; place++) {
            x.place(10 * place);
        }
        for (int lot = 0; lot < 3; lot++) {
            x.lot(10 + lot);
        }
        texts(x, "go 5 1;", "die 9;cross;", "word 4;", "");
        for (int i = 0; i < 5; i++) {
            x.sign(i, i % 4, i, 1 + i);
            x.teller(i, i % 3, 20 * i, i, 1 + i);
        }
        x.post(3, true);
        x.days(4, 1, 9);
        x.storm(30, true);
        return x;
    }

    private static long change(WordOnPost x, int change) {
        switch (change) {
            case 0 -> x.place(0);
            case 1 -> x.rain(0, 4);
            case 2 -> x.rain(9, 6);
            case 3 -> x.lot(1);
            case 4 -> x.put(0, 5);
            case 5 -> x.put(1, 8);
            case 6 -> x.kind(0, 0, 99);
            case 7 -> x.kind(3, 1, 1);
            case 8 -> x.prior(0, 2);
            case 9 -> x.prior(3, 2);
            case 10 -> x.type(0, ' ', 1);
            case 11 -> x.type(3, 0, 8);
            case 12 -> x.clear(2);
            case 13 -> x.sign(4, 3, 9, 10);
            case 14 -> x.post(3, false);
            case 15 -> x.post(NONE, true);
            case 16 -> x.teller(5, 2, 119, 7, 9);
            case 17 -> x.days(1, 0, 1);
            case 18 -> x.storm(0, true);
            default -> x.storm(30, false);
        }
        return x.digest();
    }

    private static void status() {
        promise = "35 status";
        WordOnPost x = new WordOnPost();
        refused(x, 0, 0, 0);
        // -1: another what (counts as BAD)
        bad(x, "status(-1)", () -> x.status(-1), -1);
        bad(x, "status(3)", () -> x.status(3), -1);
        bad(x, "status(MIN_VALUE)", () -> x.status(Integer.MIN_VALUE), -1);
        bad(x, "status(MAX_VALUE)", () -> x.status(Integer.MAX_VALUE), -1);
        refused(x, 4, 0, 0);
    }

    private static void statusOfEachReason() {
        promise = "35 status, each reason";
        WordOnPost x = withPlaces(2);
        // each answer told so below is such a one: NONE, 0 and -1 of others are none
        x.fault(0);
        x.limb(0, 0);
        x.sails(0, 1, 0);
        x.many(0, 20, 1, 0);
        x.dry(0, 0, 0);
        x.next();
        x.back(0, 1, 0, 0, 0);
        x.post(NONE, false);
        x.clear(0);
        refused(x, 0, 0, 0);
        // -10 is BAD, too
        x.dry(2, 0, 0);
        x.many(4, 0, 1, 0);
        x.sails(0, 2, 0);
        refused(x, 3, 0, 0);
        x.storm(0, false);
        x.from(0);
        refused(x, 3, 2, 0);
        for (int i = 0; i < 6; i++) {
            x.lot(1);
            x.place(1);
        }
        refused(x, 3, 2, 4);
        // a call is refused for one reason alone
        x.lot(0);
        refused(x, 4, 2, 4);
        // of many calls all count
        for (int i = 0; i < 100; i++) {
            x.rain(10, 10);
            x.storm(1, false);
            x.lot(1);
        }
        refused(x, 104, 102, 104);
    }

    private static void count() {
        promise = "36 count";
        WordOnPost x = new WordOnPost();
        // 0 PLACES, 1 LOTS, 2 SIGNS, 3 TELLERS, 4 and s bytes of STORY s (4 .. 7)
        for (int what = 0; what <= 7; what++) {
            due("count(" + what + ") at first", x.count(what), 0);
        }
        bad(x, "count(-1)", () -> x.count(-1));
        bad(x, "count(8)", () -> x.count(8));
        for (int i = 0; i < 7; i++) {
            x.place(1);
            x.lot(1);
            x.sign(i % 6, i / 6, 0, 1);
            x.teller(0, 0, 0, 6, 1);
        }
        for (int story = 0; story < 4; story++) {
            text(x, story, "?".repeat(117 + story));
        }
        int[] most = {6, 4, 6, 6, 117, 118, 119, 120};
        for (int what = 0; what <= 7; what++) {
            due("count(" + what + ") at last", x.count(what), most[what]);
        }
    }

    private static void digestOfNew() {
        promise = "37 digest";
        long h = 569;
        for (int i = 0; i < 8; i++) {
            h = 31 * h;
        }
        for (int year = 0; year < 10; year++) {
            h = 31 * h + 5;
        }
        h = 31 * (31 * h + 6) + 9;
        for (int kind = 0; kind < 4; kind++) {
            h = 31 * (31 * h + 100);
        }
        for (int story = 0; story < 4; story++) {
            h = 31 * h + 1;
        }
        // THE POST (1, 0 there or not), its word (NONE), cross (0 without)
        h = 31 * (31 * (31 * h) - 1);
        for (int day = 0; day < 60; day++) {
            h = 31 * h;
        }
        // THE FRACTION: no limb above, one below
        h = 31 * (31 * (31 * (31 * h)) + 1) + 1;
        due("a new object", new WordOnPost().digest(), h);
        WordOnPost x = new WordOnPost();
        x.post(NONE, false);
        due("a POST without a word is there", x.digest() == h ? 1 : 0, 0);
    }

    private static void digestOfFull() {
        promise = "37 digest, all of it";
        WordOnPost x = new WordOnPost();
        int[] v = new int[2000];
        int n = 0;
        int[] counts = {6, 4, 6, 6, 120, 120, 120, 120};
        for (int c : counts) {
            v[n++] = c;
        }
        for (int place = 0; place < 6; place++) {
            x.place(200 - place);
            v[n++] = 200 - place;
        }
        for (int year = 0; year < 10; year++) {
            x.rain(year, 9 - year);
            v[n++] = 9 - year;
        }
        for (int lot = 0; lot < 4; lot++) {
            x.lot(60 - lot);
            v[n++] = 60 - lot;
        }
        x.put(0, 0);
        x.put(1, 1);
        v[n++] = 0;
        v[n++] = 1;
        for (int kind = 0; kind < 4; kind++) {
            x.kind(kind, 0, 999 - kind);
            x.kind(kind, 1, 9 - kind);
            v[n++] = 999 - kind;
            v[n++] = 9 - kind;
        }
        for (int story = 0; story < 4; story++) {
            x.prior(story, 9 - story);
            v[n++] = 9 - story;
            for (int i = 0; i < 120; i++) {
                v[n++] = (story * 120 + i) % 256;
            }
            for (int i = 0; i < 120; i += 8) {
                long bytes = 0;
                for (int j = 0; j < 8; j++) {
                    bytes = bytes << 8 | (story * 120 + i + j) % 256;
                }
                x.type(story, bytes, 8);
            }
        }
        int all = restOfFull(x, v, n);
        due("all of it", x.digest(), mixed(java.util.Arrays.copyOf(v, all)));
    }

    /** Signs, the post, tellers, ways, storms and a fraction of two limbs either way: how many numbers there are. */
    private static int restOfFull(WordOnPost x, int[] v, int begun) {
        int n = begun;
        for (int i = 0; i < 6; i++) {
            x.sign(5 - i, i % 4, 9 - i, 10 - i);
            for (int number : new int[] {5 - i, i % 4, 9 - i, 10 - i}) {
                v[n++] = number;
            }
        }
        x.post(5, true);
        v[n++] = 1;
        v[n++] = 5;
        v[n++] = 1;
        for (int i = 0; i < 6; i++) {
            int where = i < 4 ? i : i + 2;
            x.teller(5 - i, i % 4, 119 - i, where, 9 - i);
            for (int number : new int[] {5 - i, i % 4, 119 - i, where, 9 - i}) {
                v[n++] = number;
            }
        }
        for (int a = 0; a < 6; a++) {
            for (int b = 0; b < a; b++) {
                x.days(b, a, 20 - 2 * a - b);
                v[n++] = 20 - 2 * a - b;
            }
        }
        for (int day = 0; day < 60; day++) {
            if (day % 3 == 2) {
                x.storm(day, true);
            }
            v[n++] = day % 3 == 2 ? 1 : 0;
        }
        x.stone(5, 12, 12, 1, 9);
        long above = 282429536481L;
        for (int number : new int[] {1, 2, 2, (int) (above & 1073741823), (int) (above >> 30),
            (int) (above + 1 & 1073741823), (int) (above + 1 >> 30)}) {
            v[n++] = number;
        }
        return n;
    }

    private static void digestOfEach() {
        promise = "37 digest, by refused and asking calls";
        WordOnPost x = full();
        x.stone(5, 1, 0, 9, 1);
        long digest = x.digest();
        // what only asks changes nothing, nor do STATUS and IMAGES
        x.fault(0);
        x.at(0, 5);
        x.must(0, 1, 0);
        x.hunger(0);
        x.lost(0);
        x.next();
        x.fed(0, 0);
        x.dry(0, 5, 0);
        x.many(0, 1, 1, 0);
        x.sails(0, 1, 0);
        x.back(0, 1, 0, 0, 0);
        x.part(0);
        x.limb(0, 0);
        x.image(0);
        x.status(0);
        x.status(9);
        x.count(0);
        due("as it was", x.digest(), digest);
        // days of 0 where there were none, a text that is empty already: as it was
        x.days(0, 1, 0);
        x.clear(3);
        x.rain(0, 5);
        due("as it was", x.digest(), digest);
    }

    private static void digestOfBytes() {
        promise = "37 digest, bytes";
        // bytes are 0 .. 255
        for (int sign : new int[] {0, 1, 127, 128, 255}) {
            WordOnPost x = new WordOnPost();
            x.type(0, sign, 1);
            WordOnPost y = new WordOnPost();
            y.type(0, 0, 1);
            long places = x.digest() - y.digest();
            long weight = 1;
            // behind it: three PRIORS, three of the POST, 60 days, four of THE FRACTION
            for (int i = 0; i < 3 + 3 + 60 + 4; i++) {
                weight *= 31;
            }
            due("byte " + sign, places, sign * weight);
        }
    }

    private static void lastCall() {
        promise = "37 digest, the 512th call";
        // an object is used for at most 512 calls
        WordOnPost x = new WordOnPost();
        for (int call = 1; call < 512; call++) {
            x.storm(call % 60, call % 120 < 60);
        }
        WordOnPost y = new WordOnPost();
        // calls 420 to 479 took all STORMS away, 480 to 511 brought those of days 0 to 31
        for (int day = 0; day < 32; day++) {
            y.storm(day, true);
        }
        due("digest()", x.digest(), y.digest());
    }
}
