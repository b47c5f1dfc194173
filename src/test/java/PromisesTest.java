/**
 * For each promise of the document ordinary inputs, its edges and wrong inputs, with answers
 * worked out by hand. Every method is named after its promise.
 */
public final class PromisesTest extends Due {
    public static void main(String[] args) {
        newObject();
        place();
        rain();
        lot();
        put();
        kind();
        prior();
        type();
        clear();
        fault();
        faultOfPlaces();
        sign();
        signChance();
        post();
        postChance();
        teller();
        tellerChance();
        at();
        must();
        hunger();
        odds();
        oddsRefused();
        all();
        where();
        so();
        lost();
        next();
        fed();
        dry();
        many();
        stone();
        days();
        storm();
        sails();
        back();
        part();
        limb();
        image();
        from();
        status();
        count();
        digest();
        end("promises");
    }

    private static void newObject() {
        promise = "1 a new object";
        WordOnPost x = new WordOnPost();
        for (int i = 0; i < 8; i++) {
            due("count(" + i + ")", x.count(i), 0);
        }
        for (int y = 0; y < 10; y++) {
            due("rain", x.rain(y, 5), 5);
        }
        due("HARD", x.put(0, 6), 6);
        due("TRUE", x.put(1, 9), 9);
        for (int k = 0; k < 4; k++) {
            due("EACH", x.kind(k, 0, 100), 100);
            due("CARRIED", x.kind(k, 1, 0), 0);
            due("PRIOR", x.prior(k, 1), 1);
            due("FAULT", x.fault(k), NONE);
        }
        fraction(x, "at first", 0, 1);
        refused(x, 0, 0, 0);
        due("from(0)", x.from(0), NO);
        due("from(1)", x.from(1), NO);
        due("NONE", WordOnPost.NONE, -1);
        due("BAD", WordOnPost.BAD, -2);
        due("NO", WordOnPost.NO, -3);
        due("FULL", WordOnPost.FULL, -4);
    }

    private static void place() {
        promise = "2 place";
        WordOnPost x = new WordOnPost();
        due("place(-1)", x.place(-1), BAD);
        due("place(201)", x.place(201), BAD);
        due("place(0)", x.place(0), 0);
        due("place(200)", x.place(200), 1);
        for (int i = 2; i < 6; i++) {
            due("place(50)", x.place(50), i);
        }
        due("a seventh", x.place(50), FULL);
        due("a bad seventh", x.place(201), BAD);
        due("how many", x.count(0), 6);
        refused(x, 3, 0, 1);
    }

    private static void rain() {
        promise = "3 rain";
        WordOnPost x = withPlaces(1);
        due("rain(0, 0)", x.rain(0, 0), 5);
        due("rain(0, 9)", x.rain(0, 9), 0);
        due("rain(9, 3)", x.rain(9, 3), 5);
        due("rain(10, 3)", x.rain(10, 3), BAD);
        due("rain(-1, 3)", x.rain(-1, 3), BAD);
        due("rain(0, 10)", x.rain(0, 10), BAD);
        due("rain(0, -1)", x.rain(0, -1), BAD);
        due("rain(0, 5)", x.rain(0, 5), 9);
        due("fed(0, 9)", x.fed(0, 9), 60);
        refused(x, 4, 0, 0);
    }

    private static void lot() {
        promise = "4 lot";
        WordOnPost x = new WordOnPost();
        due("lot(0)", x.lot(0), BAD);
        due("lot(61)", x.lot(61), BAD);
        due("lot(1)", x.lot(1), 0);
        due("lot(60)", x.lot(60), 1);
        due("lot(30)", x.lot(30), 2);
        due("lot(30)", x.lot(30), 3);
        due("a fifth", x.lot(30), FULL);
        due("a bad fifth", x.lot(0), BAD);
        due("how many", x.count(1), 4);
        refused(x, 3, 0, 1);
    }

    private static void put() {
        promise = "5 put";
        WordOnPost x = new WordOnPost();
        due("put(0, 0)", x.put(0, 0), 6);
        due("put(0, 9)", x.put(0, 9), 0);
        due("put(0, 10)", x.put(0, 10), BAD);
        due("put(0, -1)", x.put(0, -1), BAD);
        due("put(1, 1)", x.put(1, 1), 9);
        due("put(1, 9)", x.put(1, 9), 1);
        due("put(1, 0)", x.put(1, 0), BAD);
        due("put(1, 10)", x.put(1, 10), BAD);
        due("put(2, 5)", x.put(2, 5), BAD);
        due("put(-1, 5)", x.put(-1, 5), BAD);
        due("put(0, 4)", x.put(0, 4), 9);
        refused(x, 6, 0, 0);
    }

    private static void kind() {
        promise = "6 kind";
        WordOnPost x = new WordOnPost();
        due("kind(0, 0, 1)", x.kind(0, 0, 1), 100);
        due("kind(0, 0, 999)", x.kind(0, 0, 999), 1);
        due("kind(0, 0, 0)", x.kind(0, 0, 0), BAD);
        due("kind(0, 0, 1000)", x.kind(0, 0, 1000), BAD);
        due("kind(3, 1, 9)", x.kind(3, 1, 9), 0);
        due("kind(3, 1, 0)", x.kind(3, 1, 0), 9);
        due("kind(3, 1, 10)", x.kind(3, 1, 10), BAD);
        due("kind(3, 1, -1)", x.kind(3, 1, -1), BAD);
        due("kind(4, 0, 1)", x.kind(4, 0, 1), BAD);
        due("kind(-1, 0, 1)", x.kind(-1, 0, 1), BAD);
        due("kind(0, 2, 1)", x.kind(0, 2, 1), BAD);
        due("kind(0, -1, 1)", x.kind(0, -1, 1), BAD);
        due("kind(0, 0, 7)", x.kind(0, 0, 7), 999);
        refused(x, 8, 0, 0);
    }

    private static void prior() {
        promise = "7 prior";
        WordOnPost x = new WordOnPost();
        due("prior(0, 9)", x.prior(0, 9), 1);
        due("prior(0, 1)", x.prior(0, 1), 9);
        due("prior(3, 4)", x.prior(3, 4), 1);
        due("prior(4, 4)", x.prior(4, 4), BAD);
        due("prior(-1, 4)", x.prior(-1, 4), BAD);
        due("prior(3, 0)", x.prior(3, 0), BAD);
        due("prior(3, 10)", x.prior(3, 10), BAD);
        due("prior(3, 2)", x.prior(3, 2), 4);
        refused(x, 4, 0, 0);
    }

    private static void type() {
        promise = "8 type";
        WordOnPost x = withPlaces(1);
        due("cross", x.type(0, 0x63726f7373L, 5), 5);
        due("ended", x.type(0, 0x1234563bL, 1), 6);
        due("fault", x.fault(0), NONE);
        due("a text of eight", x.type(1, 0xff20202020202020L, 8), 8);
        due("its highest byte comes first", x.fault(1), 0);
        due("its lowest seven", x.type(2, 0xff20202020202020L, 7), 7);
        due("are blanks", x.fault(2), NONE);
        due("n 0", x.type(0, 0, 0), BAD);
        due("n 9", x.type(0, 0, 9), BAD);
        due("story 4", x.type(4, 0, 1), BAD);
        due("story -1", x.type(-1, 0, 1), BAD);
        for (int i = 1; i < 15; i++) {
            due("to 120", x.type(1, 0, 8), 8 * i + 8);
        }
        due("beyond 120", x.type(1, 0, 1), FULL);
        due("beyond 120 and BAD", x.type(1, 0, 9), BAD);
        due("how many", x.count(5), 120);
        x.clear(1);
        for (int i = 0; i < 14; i++) {
            x.type(1, 0, 8);
        }
        x.type(1, 0, 4);
        due("116 and 5 are too many", x.type(1, 0, 5), FULL);
        due("116 and 4 are not", x.type(1, 0, 4), 120);
        refused(x, 5, 0, 2);
    }

    private static void clear() {
        promise = "9 clear";
        WordOnPost x = withPlaces(1);
        text(x, 3, "nonsense");
        due("fault(3)", x.fault(3), 0);
        due("clear(3)", x.clear(3), 8);
        due("clear(3) again", x.clear(3), 0);
        due("fault(3)", x.fault(3), NONE);
        due("count(7)", x.count(7), 0);
        due("clear(4)", x.clear(4), BAD);
        due("clear(-1)", x.clear(-1), BAD);
        refused(x, 2, 0, 0);
    }

    private static void fault() {
        promise = "10 fault";
        WordOnPost x = withPlaces(3);
        faultOf(x, "", NONE);
        faultOf(x, "     ", NONE);
        faultOf(x, "go 5 1;join 6;", NONE);
        faultOf(x, "  go5 1;go 5 2 ;  join  005;cross ;word2;", NONE);
        faultOf(x, "word 0;die 119;cross;", NONE);
        faultOf(x, "die 5;cross;word 1;", NONE);
        faultOf(x, "go 5 1; swim 6 1;", 8);
        faultOf(x, "gone 5 1;", 0);
        faultOf(x, "crosscross;", 0);
        faultOf(x, "aaaacross;", 0);
        faultOf(x, "cross;aaaaaaaaaaaacross;", 6);
        faultOf(x, "goa5 1;", 0);
        faultOf(x, "goz5 1;", 0);
        faultOf(x, "go 5 1;go 6 2;go 7 0;go 8 1;go 9 2;go 10 0;go 11 1;go 12 2;go 13 0;go 14 1;join 15;cross;word1;", NONE);
        faultOf(x, "Go 5 1;", 0);
        faultOf(x, "go\t5 1;", 2);
        faultOf(x, "go 0005 1;", 3);
        faultOf(x, "go 5 0001;", 5);
        faultOf(x, "go 120 1;", 3);
        faultOf(x, "go 119 1;", NONE);
        faultOf(x, "go 9 1;go 8 1;", 10);
        faultOf(x, "go 9 1;go 9 1;", NONE);
        faultOf(x, "go 9 1;join 8;", 12);
        faultOf(x, "go 9 1;die 8;", 11);
        faultOf(x, "go 9 3;", 5);
        faultOf(x, "word 3;", 5);
        faultOf(x, "word 002;", NONE);
        faultOf(x, "join 5;go 6 1;", 7);
        faultOf(x, "join 5;join 6;", 7);
        faultOf(x, "die 5; die 6;", 7);
        faultOf(x, "die 5;join 6;", 6);
        faultOf(x, "word 1;cross;word 1;", 13);
        faultOf(x, "cross;word 1;cross;", 13);
        faultOf(x, ";", 0);
        faultOf(x, "5;", 0);
        faultOf(x, "go go;", 3);
        faultOf(x, "go 5;", 4);
        faultOf(x, "go 5 1 1;", 7);
        faultOf(x, "cross 1;", 6);
        faultOf(x, "word;", 4);
        faultOf(x, "join 5 1;", 7);
        faultOf(x, "cross;;", 6);
        faultOf(x, "go", 2);
        faultOf(x, "go  ", 4);
        faultOf(x, "go 5 ", 5);
        faultOf(x, "go 5 1", 6);
        faultOf(x, "cross;cros", 6);
        faultOf(x, "cross; go 5 1   ", 16);
        faultOf(x, "go 5 1;\u0000", 7);
        faultOf(x, "\u00ff", 0);
        faultOf(x, "`", 0);
        faultOf(x, "{", 0);
        faultOf(x, "go 5:1;", 4);
        faultOf(x, "go/5 1;", 2);
        due("fault(4)", x.fault(4), BAD);
        due("fault(-1)", x.fault(-1), BAD);
        refused(x, 2, 0, 0);
    }

    private static void faultOfPlaces() {
        promise = "10 fault, by places";
        WordOnPost x = new WordOnPost();
        text(x, 0, "go 1 1;");
        due("no place", x.fault(0), 5);
        x.place(1);
        due("one place", x.fault(0), 5);
        x.place(1);
        due("two places", x.fault(0), NONE);
        text(x, 1, "join 3;cross;");
        due("no place named", x.fault(1), NONE);
    }

    private static void sign() {
        promise = "11 sign";
        WordOnPost x = withPlaces(2);
        due("sign(0, 0, 0, 1)", x.sign(0, 0, 0, 1), 0);
        due("the same again", x.sign(0, 0, 5, 5), BAD);
        due("another place", x.sign(1, 0, 9, 10), 1);
        due("another kind", x.sign(0, 3, 9, 10), 2);
        due("place 2", x.sign(2, 0, 0, 1), BAD);
        due("place -1", x.sign(-1, 0, 0, 1), BAD);
        due("kind 4", x.sign(0, 4, 0, 1), BAD);
        due("kind -1", x.sign(0, -1, 0, 1), BAD);
        due("found 10", x.sign(0, 1, 10, 1), BAD);
        due("found -1", x.sign(0, 1, -1, 1), BAD);
        due("dug 0", x.sign(0, 1, 0, 0), BAD);
        due("dug 11", x.sign(0, 1, 0, 11), BAD);
        due("a fourth", x.sign(0, 1, 1, 1), 3);
        due("a fifth", x.sign(0, 2, 1, 1), 4);
        due("a sixth", x.sign(1, 2, 1, 1), 5);
        due("a seventh", x.sign(1, 3, 1, 1), FULL);
        due("one that is there", x.sign(1, 2, 1, 1), BAD);
        due("how many", x.count(2), 6);
        refused(x, 10, 0, 1);
    }

    /** Two stories, one that stays and one that goes at once: shares of the chances of one sign. */
    private static WordOnPost stayOrGo(int each, int carried) {
        WordOnPost x = withPlaces(2);
        x.lot(1);
        text(x, 0, "");
        text(x, 1, "go 0 1;");
        text(x, 2, "x");
        text(x, 3, "x");
        x.kind(0, 0, each);
        x.kind(0, 1, carried);
        return x;
    }

    private static void signChance() {
        promise = "11 sign, its chance";
        // two left (120 by 60) or none; one found, 3 of 10 dug: 2 * 3 * 7 of 100 against 0
        WordOnPost x = stayOrGo(60, 0);
        x.sign(0, 0, 1, 3);
        x.odds(0, 0);
        fraction(x, "one of two", 1, 1);
        // none found: 49 of 100 against 1
        x = stayOrGo(60, 0);
        x.sign(0, 0, 0, 3);
        x.odds(0, 0);
        fraction(x, "none of two", 49, 149);
        // one found, 2 of 10 carried; two left: .49 * .16 + .42 * .8 = .4144; none left: .16
        x = stayOrGo(60, 2);
        x.sign(0, 0, 1, 3);
        x.odds(0, 0);
        fraction(x, "one of two, or carried", 259, 359);
        // three found, two left at most: .49 * .2^3 * .8 + .42 * .2^2 * .8 + .09 * .2 * .8 = .030976; none: .0064
        x = stayOrGo(60, 2);
        x.sign(0, 0, 3, 3);
        x.odds(0, 0);
        fraction(x, "three of two", 121, 146);
        // all is dug up: two of two, and nothing carried
        x = stayOrGo(60, 0);
        x.sign(0, 0, 2, 10);
        x.odds(0, 0);
        fraction(x, "two of two", 1, 1);
        x = stayOrGo(60, 0);
        x.sign(0, 0, 1, 10);
        due("one of two or of none can not be", x.odds(0, 0), NO);
    }

    private static void post() {
        promise = "12 post";
        WordOnPost x = withPlaces(2);
        due("post(1, true)", x.post(1, true), 1);
        due("post(0, false)", x.post(0, false), 1);
        due("post(-1, true)", x.post(NONE, true), 1);
        due("post(2, true)", x.post(2, true), BAD);
        due("post(-2, true)", x.post(-2, true), BAD);
        refused(x, 2, 0, 0);
        due("no place, no word", new WordOnPost().post(NONE, false), 1);
        due("no place", new WordOnPost().post(0, false), BAD);
    }

    private static void postChance() {
        promise = "12 post, its chance";
        WordOnPost x = withPlaces(2);
        x.lot(1);
        x.lot(1);
        text(x, 0, "word 1;cross;");
        text(x, 1, "word 1;");
        text(x, 2, "word 0;");
        text(x, 3, "");
        x.put(1, 8);
        x.post(1, true);
        x.odds(0, 0);
        fraction(x, "word and cross: 64 of 64, 16, 4, 4", 8, 11);
        x.odds(0, 2);
        fraction(x, "neither", 1, 22);
        x.odds(1, 0);
        fraction(x, "of lot 0 alone", 1, 4);
        x.post(NONE, false);
        x.odds(0, 3);
        fraction(x, "none told: 4, 16, 16, 64", 16, 25);
        x.odds(0, 0);
        fraction(x, "neither", 1, 25);
    }

    private static void teller() {
        promise = "13 teller";
        WordOnPost x = withPlaces(2);
        due("no lot", x.teller(0, 0, 0, 0, 1), BAD);
        x.lot(5);
        due("the first", x.teller(0, 0, 0, 0, 1), 0);
        due("source 6", x.teller(6, 0, 0, 0, 1), BAD);
        due("source -1", x.teller(-1, 0, 0, 0, 1), BAD);
        due("lot 1", x.teller(0, 1, 0, 0, 1), BAD);
        due("lot -1", x.teller(0, -1, 0, 0, 1), BAD);
        due("month 120", x.teller(0, 0, 120, 0, 1), BAD);
        due("month -1", x.teller(0, 0, -1, 0, 1), BAD);
        due("where 2", x.teller(0, 0, 0, 2, 1), BAD);
        due("where 5", x.teller(0, 0, 0, 5, 1), BAD);
        due("where 8", x.teller(0, 0, 0, 8, 1), BAD);
        due("where -1", x.teller(0, 0, 0, -1, 1), BAD);
        due("worth 0", x.teller(0, 0, 0, 0, 0), BAD);
        due("worth 10", x.teller(0, 0, 0, 0, 10), BAD);
        due("at the ends", x.teller(5, 0, 119, 7, 9), 1);
        due("the third", x.teller(5, 0, 119, 6, 9), 2);
        due("the fourth", x.teller(5, 0, 119, 1, 9), 3);
        due("the fifth", x.teller(5, 0, 119, 1, 9), 4);
        due("the sixth", x.teller(5, 0, 119, 1, 9), 5);
        due("a seventh", x.teller(5, 0, 119, 1, 9), FULL);
        due("a bad seventh", x.teller(6, 0, 119, 1, 9), BAD);
        due("how many", x.count(3), 6);
        refused(x, 14, 0, 1);
    }

    private static void tellerChance() {
        promise = "13 teller, the chance";
        WordOnPost x = stayOrGo(100, 0);
        x.teller(3, 0, 5, 1, 8);
        x.odds(0, 1);
        fraction(x, "heard: 8 against 2", 4, 5);
        x.teller(3, 0, 5, 0, 9);
        x.odds(0, 1);
        fraction(x, "another of his source is not heard", 4, 5);
        x.teller(4, 0, 5, 0, 8);
        x.odds(0, 1);
        fraction(x, "one of another source is", 1, 2);
    }

    private static void at() {
        promise = "14 at";
        WordOnPost x = new WordOnPost();
        due("no places", x.at(0, 0), NO);
        x.place(1);
        x.place(1);
        x.place(1);
        text(x, 0, "go 3 1;go 7 2;go 7 0;die 9;");
        due("at first", x.at(0, 0), 0);
        due("before", x.at(0, 2), 0);
        due("from then on", x.at(0, 3), 1);
        due("until", x.at(0, 6), 1);
        due("the last of two", x.at(0, 7), 0);
        due("dead", x.at(0, 9), 7);
        due("for good", x.at(0, 119), 7);
        text(x, 1, "go 0 2;join 119;");
        due("at once", x.at(1, 0), 2);
        due("until the end", x.at(1, 118), 2);
        due("joined", x.at(1, 119), 6);
        text(x, 2, "go 4 1;join 4;");
        due("join behind go", x.at(2, 4), 6);
        text(x, 3, "go 4 3;");
        due("a fault", x.at(3, 0), NO);
        due("story 4", x.at(4, 0), BAD);
        due("story -1", x.at(-1, 0), BAD);
        due("month 120", x.at(0, 120), BAD);
        due("month -1", x.at(0, -1), BAD);
        due("BAD before NO", x.at(3, 120), BAD);
        refused(x, 5, 2, 0);
    }

    private static void must() {
        promise = "15 must";
        WordOnPost x = withPlaces(3);
        text(x, 0, "go 11 1;go 20 0;go 21 1;die 23;");
        due("no lots", x.must(0, 0, 0), 0);
        x.lot(5);
        x.lot(6);
        x.kind(0, 0, 30);
        due("12 months of 11 people by 30", x.must(0, 0, 0), 4);
        due("11 months of them", x.must(0, 1, 0), 4);
        due("none there", x.must(0, 2, 0), 0);
        due("by 100", x.must(0, 1, 1), 1);
        x.kind(2, 0, 6);
        due("132 by 6, 20 at most", x.must(0, 0, 2), 20);
        due("121 by 6", x.must(0, 1, 2), 20);
        text(x, 2, "go 0 2;");
        due("another story, none there", x.must(2, 0, 0), 0);
        due("another story, 1320 by 100", x.must(2, 2, 1), 13);
        x.kind(3, 0, 1);
        due("by one", x.must(0, 2, 3), 0);
        text(x, 1, "go");
        due("a fault", x.must(1, 0, 0), NO);
        due("place 3", x.must(0, 3, 0), BAD);
        due("place -1", x.must(0, -1, 0), BAD);
        due("kind 4", x.must(0, 0, 4), BAD);
        due("kind -1", x.must(0, 0, -1), BAD);
        due("story 4", x.must(4, 0, 0), BAD);
        due("story -1", x.must(-1, 0, 0), BAD);
        due("BAD before NO", x.must(1, 3, 0), BAD);
        refused(x, 7, 1, 0);
    }

    private static void hunger() {
        promise = "16 hunger";
        WordOnPost x = new WordOnPost();
        due("no places", x.hunger(0), NO);
        x.place(20);
        x.place(19);
        due("no lots", x.hunger(0), 0);
        x.lot(10);
        x.lot(10);
        due("just fed", x.hunger(0), 0);
        text(x, 1, "go 0 1;");
        due("one too many, all years", x.hunger(1), 10);
        text(x, 1, "go 23 1;go 24 0;");
        due("one month is enough", x.hunger(1), 1);
        text(x, 1, "go 23 1;go 25 0;");
        due("two years", x.hunger(1), 2);
        x.rain(0, 4);
        due("both places in year 0, and two more", x.hunger(1), 3);
        text(x, 1, "go 11 1;die 12;");
        due("the same year twice, by places", x.hunger(1), 2);
        x.rain(0, 0);
        text(x, 2, "join 0;");
        due("who has joined is not hungry", x.hunger(2), 0);
        text(x, 3, "?");
        due("a fault", x.hunger(3), NO);
        due("story 4", x.hunger(4), BAD);
        due("story -1", x.hunger(-1), BAD);
        refused(x, 2, 2, 0);
    }

    private static void odds() {
        promise = "17 odds";
        WordOnPost x = stayOrGo(100, 0);
        x.prior(0, 3);
        x.prior(1, 5);
        due("odds(0, 0)", x.odds(0, 0), 1);
        fraction(x, "by priors", 3, 8);
        due("odds(0, 2)", x.odds(0, 2), 1);
        fraction(x, "a fault", 0, 1);
        x.lot(2);
        due("odds(1, 1)", x.odds(1, 1), 1);
        fraction(x, "each lot for itself", 5, 8);
        // both hunger: 7 of 9 for each of ten years
        x = withPlaces(1);
        x.place(0);
        x.lot(1);
        text(x, 0, "go 118 1;");
        text(x, 1, "go 107 1;go 109 0;");
        text(x, 2, "");
        text(x, 3, "?");
        x.put(0, 3);
        x.odds(0, 0);
        fraction(x, "one year of hunger: 3 of 9", 3, 13);
        x.odds(0, 1);
        fraction(x, "two years of it", 1, 13);
        x.put(0, 0);
        x.odds(0, 2);
        fraction(x, "no one bears it", 1, 1);
        x.put(0, 9);
        x.odds(0, 2);
        fraction(x, "all bear it", 1, 3);
        due("lot 1", x.odds(1, 0), BAD);
        due("lot -1", x.odds(-1, 0), BAD);
        due("story 4", x.odds(0, 4), BAD);
        due("story -1", x.odds(0, -1), BAD);
        refused(x, 4, 0, 0);
        fraction(x, "it stays", 1, 3);
    }

    private static void oddsRefused() {
        promise = "17 odds, refused";
        WordOnPost x = new WordOnPost();
        x.lot(1);
        due("no places", x.odds(0, 0), NO);
        due("all, no places", x.all(0), NO);
        due("where, no places", x.where(0, 0, 6), NO);
        due("lost, no places", x.lost(0), NO);
        due("next, no places", x.next(), NO);
        due("so, no teller", x.so(0), BAD);
        x.teller(0, 0, 0, 6, 5);
        due("so, no places", x.so(0), NO);
        x.place(1);
        for (int s = 0; s < 4; s++) {
            text(x, s, "?");
        }
        due("no story without a fault", x.odds(0, 0), NO);
        due("all", x.all(0), NO);
        due("where", x.where(0, 0, 6), NO);
        due("so", x.so(0), NO);
        due("lost", x.lost(0), NO);
        due("next", x.next(), NO);
        x.clear(1);
        due("one without", x.odds(0, 1), 1);
        x.sign(0, 0, 9, 10);
        due("no weight", x.odds(0, 1), NO);
        due("BAD before NO", x.odds(0, 4), BAD);
        refused(x, 2, 13, 0);
    }

    private static void all() {
        promise = "18 all";
        WordOnPost x = stayOrGo(100, 0);
        x.lot(2);
        x.prior(0, 3);
        x.prior(1, 5);
        due("all(0)", x.all(0), 1);
        fraction(x, "both stay", 9, 64);
        x.all(1);
        fraction(x, "both go", 25, 64);
        due("all(2)", x.all(2), 1);
        fraction(x, "a fault", 0, 1);
        due("all(4)", x.all(4), BAD);
        due("all(-1)", x.all(-1), BAD);
        refused(x, 2, 0, 0);
        x = withPlaces(1);
        text(x, 1, "?");
        due("without lots there is one world", x.all(0), 1);
        fraction(x, "all none of them do", 1, 1);
        due("a fault", x.all(1), 1);
        fraction(x, "none", 0, 1);
        x.sign(0, 0, 1, 1);
        due("nothing can have been left", x.all(0), NO);
        x.kind(0, 1, 1);
        due("but carried", x.all(0), 1);
    }

    private static void where() {
        promise = "19 where";
        WordOnPost x = withPlaces(2);
        x.lot(3);
        text(x, 0, "go 5 1;");
        text(x, 1, "go 6 1;die 9;");
        text(x, 2, "join 5;");
        text(x, 3, "");
        x.prior(1, 2);
        x.prior(2, 3);
        x.prior(3, 4);
        due("where(0, 4, 0)", x.where(0, 4, 0), 1);
        fraction(x, "all are", 1, 1);
        x.where(0, 5, 1);
        fraction(x, "1 of 10", 1, 10);
        x.where(0, 6, 1);
        fraction(x, "3 of 10", 3, 10);
        x.where(0, 5, 6);
        fraction(x, "joined", 3, 10);
        x.where(0, 119, 7);
        fraction(x, "dead", 1, 5);
        x.where(0, 0, 7);
        fraction(x, "not yet", 0, 1);
        due("lot 1", x.where(1, 0, 0), BAD);
        due("lot -1", x.where(-1, 0, 0), BAD);
        due("month 120", x.where(0, 120, 0), BAD);
        due("month -1", x.where(0, -1, 0), BAD);
        due("where 2", x.where(0, 0, 2), BAD);
        due("where 8", x.where(0, 0, 8), BAD);
        due("where -1", x.where(0, 0, -1), BAD);
        refused(x, 7, 0, 0);
    }

    private static void so() {
        promise = "20 so";
        WordOnPost x = stayOrGo(100, 0);
        x.teller(0, 0, 3, 1, 7);
        x.teller(0, 0, 3, 0, 9);
        due("so(0)", x.so(0), 1);
        fraction(x, "heard", 7, 10);
        due("so(1)", x.so(1), 1);
        fraction(x, "not heard, but asked", 3, 10);
        due("so(2)", x.so(2), BAD);
        due("so(-1)", x.so(-1), BAD);
        refused(x, 2, 0, 0);
    }

    private static void lost() {
        promise = "21 lost";
        WordOnPost x = withPlaces(1);
        x.lot(3);
        x.lot(4);
        text(x, 0, "");
        text(x, 1, "join 4;");
        text(x, 2, "?");
        text(x, 3, "?");
        due("never", x.lost(0), 0);
        text(x, 2, "die 119;");
        due("open", x.lost(1), 2);
        text(x, 0, "die 0;");
        text(x, 1, "die 5;");
        due("always", x.lost(0), 1);
        due("lot 2", x.lost(2), BAD);
        due("lot -1", x.lost(-1), BAD);
        // what has no weight does not count: none was left, if lot 0 died at once
        x = withPlaces(1);
        x.lot(1);
        text(x, 0, "die 0;");
        text(x, 1, "");
        text(x, 2, "?");
        text(x, 3, "?");
        due("open", x.lost(0), 2);
        x.sign(0, 0, 1, 5);
        due("by worlds of some weight", x.lost(0), 0);
        fraction(x, "it is not touched", 0, 1);
    }

    private static void next() {
        promise = "22 next";
        WordOnPost x = withPlaces(3);
        due("no lots", x.next(), NONE);
        x.lot(10);
        for (int s = 0; s < 4; s++) {
            text(x, s, "go 10 1;");
        }
        due("none differs", x.next(), NONE);
        // place 0: 1 or 2 by 100; place 1: 11 or 10; place 2: none
        text(x, 1, "go 20 1;");
        due("of like ones the least", x.next(), 0);
        // by 50 there are 2 or 4 at place 0
        x.kind(2, 0, 50);
        due("the greatest difference", x.next(), 2);
        x.sign(0, 2, 1, 5);
        due("no sign there, and 20 at most at place 1", x.next(), 0);
        x.sign(1, 2, 3, 5);
        due("like ones again", x.next(), 0);
        x.sign(0, 0, 1, 10);
        due("the one that goes later has no weight", x.next(), NONE);
        text(x, 2, "go 10 2;");
        due("nor has one that leaves none where some were found", x.next(), NONE);
        due("nothing was refused", x.status(0) + x.status(1) + x.status(2), 0);
        WordOnPost y = withPlaces(2);
        y.lot(50);
        text(y, 1, "go 60 1;");
        y.kind(0, 0, 999);
        y.kind(1, 0, 999);
        y.kind(2, 0, 999);
        // 20 at most at place 0 either way; 30 would be left at place 1
        due("20 at most", y.next(), 13);
    }

    private static void fed() {
        promise = "23 fed";
        WordOnPost x = new WordOnPost();
        x.place(13);
        x.place(200);
        x.rain(4, 4);
        x.rain(5, 9);
        x.rain(6, 0);
        due("fed(0, 0)", x.fed(0, 0), 13);
        due("52 by 5", x.fed(0, 4), 10);
        due("1800 by 5", x.fed(1, 5), 360);
        due("no rain", x.fed(1, 6), 0);
        due("place 2", x.fed(2, 0), BAD);
        due("place -1", x.fed(-1, 0), BAD);
        due("year 10", x.fed(0, 10), BAD);
        due("year -1", x.fed(0, -1), BAD);
        refused(x, 4, 0, 0);
    }

    private static void dry() {
        promise = "24 dry";
        WordOnPost x = withPlaces(1);
        int[] rain = {1, 5, 2, 2, 5, 3, 1, 5, 5, 0};
        for (int y = 0; y < 10; y++) {
            x.rain(y, rain[y]);
        }
        due("the first of like rows", x.dry(0, 61, 0), 2);
        due("how long", x.dry(0, 61, 1), 2);
        due("below 60 there is one shorter", x.dry(0, 60, 0), 2);
        due("below 21", x.dry(0, 21, 0), 0);
        due("one year", x.dry(0, 21, 1), 1);
        due("at the end", x.dry(0, 1, 0), 9);
        due("at the end, how long", x.dry(0, 1, 1), 1);
        due("all of them", x.dry(0, 999, 0), 0);
        due("ten", x.dry(0, 999, 1), 10);
        due("none", x.dry(0, 0, 0), NONE);
        due("none, how long", x.dry(0, 0, 1), 0);
        due("place 1", x.dry(1, 5, 0), -10);
        due("place -1", x.dry(-1, 5, 0), -10);
        due("n 1000", x.dry(0, 1000, 0), -10);
        due("n -1", x.dry(0, -1, 0), -10);
        due("what 2", x.dry(0, 5, 2), -10);
        due("what -1", x.dry(0, 5, -1), -10);
        refused(x, 6, 0, 0);
    }

    private static void many() {
        promise = "25 many";
        WordOnPost x = new WordOnPost();
        due("3 by 100 in 7 months", x.many(0, 3, 7, 0), 43);
        due("at most", x.many(0, 3, 7, 1), 57);
        due("none left", x.many(0, 0, 120, 0), 0);
        due("none left, at most", x.many(0, 0, 120, 1), 0);
        due("just 20", x.many(0, 20, 100, 0), 20);
        due("just 20, no more", x.many(0, 20, 100, 1), 20);
        x.kind(1, 0, 2);
        due("no number of people", x.many(1, 1, 5, 0), NONE);
        due("no number of people, at most", x.many(1, 1, 5, 1), NONE);
        x.kind(2, 0, 999);
        due("999 at most", x.many(2, 0, 1, 1), 998);
        due("just one", x.many(2, 1, 1, 0), 999);
        due("cut at 999", x.many(2, 1, 1, 1), 999);
        due("too many", x.many(2, 2, 1, 0), NONE);
        due("kind 4", x.many(4, 0, 1, 0), -10);
        due("kind -1", x.many(-1, 0, 1, 0), -10);
        due("c 21", x.many(0, 21, 1, 0), -10);
        due("c -1", x.many(0, -1, 1, 0), -10);
        due("months 0", x.many(0, 0, 0, 0), -10);
        due("months 121", x.many(0, 0, 121, 0), -10);
        due("what 2", x.many(0, 0, 1, 2), -10);
        due("what -1", x.many(0, 0, 1, -1), -10);
        refused(x, 8, 0, 0);
    }

    private static void stone() {
        promise = "26 stone";
        WordOnPost x = new WordOnPost();
        due("stone", x.stone(4, 3, 2, 8, 5), 1);
        // 4 * 5 * 5 * 5 = 500 against 6 * 8 * 8 * 2 = 768
        fraction(x, "500 of 1268", 125, 317);
        x.stone(0, 12, 12, 1, 9);
        fraction(x, "surely true", 0, 1);
        x.stone(10, 12, 0, 1, 9);
        fraction(x, "surely forged", 1, 1);
        x.stone(5, 1, 0, 9, 1);
        fraction(x, "one letter, wrong", 9, 10);
        due("p 11", x.stone(11, 1, 0, 1, 1), BAD);
        due("p -1", x.stone(-1, 1, 0, 1, 1), BAD);
        due("n 0", x.stone(5, 0, 0, 1, 1), BAD);
        due("n 13", x.stone(5, 13, 0, 1, 1), BAD);
        due("k above n", x.stone(5, 3, 4, 1, 1), BAD);
        due("k -1", x.stone(5, 3, -1, 1, 1), BAD);
        due("t 0", x.stone(5, 3, 2, 0, 1), BAD);
        due("t 10", x.stone(5, 3, 2, 10, 1), BAD);
        due("f 0", x.stone(5, 3, 2, 1, 0), BAD);
        due("f 10", x.stone(5, 3, 2, 1, 10), BAD);
        fraction(x, "it stays", 9, 10);
        refused(x, 10, 0, 0);
    }

    private static void days() {
        promise = "27 days";
        WordOnPost x = withPlaces(3);
        due("days(0, 1, 20)", x.days(0, 1, 20), 0);
        due("either way", x.days(1, 0, 3), 20);
        due("back again", x.days(0, 1, 0), 3);
        due("others are not touched", x.days(0, 2, 1), 0);
        due("alike", x.days(1, 1, 1), BAD);
        due("a 3", x.days(3, 1, 1), BAD);
        due("a -1", x.days(-1, 1, 1), BAD);
        due("b 3", x.days(1, 3, 1), BAD);
        due("b -1", x.days(1, -1, 1), BAD);
        due("n 21", x.days(0, 1, 21), BAD);
        due("n -1", x.days(0, 1, -1), BAD);
        refused(x, 7, 0, 0);
    }

    private static void storm() {
        promise = "28 storm";
        WordOnPost x = new WordOnPost();
        due("none is there", x.storm(0, false), NO);
        due("storm(0, true)", x.storm(0, true), 1);
        due("it is so", x.storm(0, true), NO);
        due("storm(0, false)", x.storm(0, false), 1);
        due("storm(59, true)", x.storm(59, true), 1);
        due("storm(60, true)", x.storm(60, true), BAD);
        due("storm(-1, false)", x.storm(-1, false), BAD);
        refused(x, 2, 2, 0);
    }

    private static void sails() {
        promise = "29 sails";
        WordOnPost x = withPlaces(4);
        x.days(0, 1, 4);
        x.days(1, 2, 4);
        x.days(0, 2, 9);
        due("by two legs", x.sails(0, 2, 10), 18);
        due("either way", x.sails(2, 0, 10), 18);
        due("the same", x.sails(3, 3, 59), 59);
        x.days(2, 3, 1);
        due("a leg of one day", x.sails(0, 3, 10), 19);
        x.days(2, 3, 0);
        due("no way", x.sails(0, 3, 0), NONE);
        x.storm(10, true);
        due("it waits", x.sails(0, 1, 10), 15);
        x.storm(14, true);
        due("and again", x.sails(0, 1, 10), 16);
        x.storm(59, true);
        due("the last storm", x.sails(0, 1, 59), 64);
        x.storm(16, true);
        due("there on a day of storm", x.sails(0, 1, 11), 16);
        due("then it waits there", x.sails(0, 2, 11), 21);
        for (int d = 20; d < 60; d++) {
            x.storm(d, true);
        }
        due("storms until 60", x.sails(0, 1, 19), 63);
        due("a PLACE 4", x.sails(0, 4, 0), -10);
        due("a PLACE -1", x.sails(0, -1, 0), -10);
        due("from 4", x.sails(4, 0, 0), -10);
        due("from -1", x.sails(-1, 0, 0), -10);
        due("day 60", x.sails(0, 1, 60), -10);
        due("day -1", x.sails(0, 1, -1), -10);
        due("bad days", x.status(0), 6);
    }

    private static void back() {
        promise = "30 back";
        WordOnPost x = withPlaces(3);
        x.days(0, 1, 5);
        due("in time", x.back(0, 1, 10, 3, 23), 1);
        due("not in time", x.back(0, 1, 10, 3, 22), 0);
        due("the same", x.back(2, 2, 10, 3, 13), 1);
        due("the same, too late", x.back(2, 2, 10, 3, 12), 0);
        due("no way", x.back(0, 2, 0, 0, 999), 0);
        due("all at 0", x.back(1, 1, 0, 0, 0), 1);
        x.storm(18, true);
        due("a storm on the way back", x.back(0, 1, 10, 3, 23), 0);
        due("a day more", x.back(0, 1, 10, 3, 24), 1);
        due("beyond 60", x.back(0, 1, 59, 59, 128), 1);
        due("beyond 60, too late", x.back(0, 1, 59, 59, 127), 0);
        due("from 3", x.back(3, 0, 0, 0, 0), BAD);
        due("from -1", x.back(-1, 0, 0, 0, 0), BAD);
        due("to 3", x.back(0, 3, 0, 0, 0), BAD);
        due("to -1", x.back(0, -1, 0, 0, 0), BAD);
        due("day 60", x.back(0, 1, 60, 0, 0), BAD);
        due("day -1", x.back(0, 1, -1, 0, 0), BAD);
        due("stay 60", x.back(0, 1, 0, 60, 0), BAD);
        due("stay -1", x.back(0, 1, 0, -1, 0), BAD);
        due("last 1000", x.back(0, 1, 0, 0, 1000), BAD);
        due("last -1", x.back(0, 1, 0, 0, -1), BAD);
        refused(x, 10, 0, 0);
    }

    private static void part() {
        promise = "31 part";
        WordOnPost x = new WordOnPost();
        due("sign", x.part(0), 0);
        due("above", x.part(1), 0);
        due("below", x.part(2), 1);
        // 1 by 1 + 9 to the 12th is more than a limb
        x.stone(5, 12, 12, 9, 1);
        due("sign", x.part(0), 1);
        due("above", x.part(1), 1);
        due("below", x.part(2), 2);
        due("part(3)", x.part(3), BAD);
        due("part(-1)", x.part(-1), BAD);
        refused(x, 2, 0, 0);
    }

    private static void limb() {
        promise = "32 limb";
        WordOnPost x = new WordOnPost();
        due("above 0", x.limb(0, 0), NONE);
        due("below 0", x.limb(1, 0), 1);
        due("below 1", x.limb(1, 1), NONE);
        // 9 to the 12th and 1 is 282429536482 = 263 * 2^30 + 35436770, and even: 1 + 9^12 = 2 * 141214768241
        x.stone(5, 12, 12, 9, 1);
        due("lowest", x.limb(1, 0), (int) (282429536482L % 1073741824L));
        due("highest", x.limb(1, 1), (int) (282429536482L / 1073741824L));
        due("not so many", x.limb(1, 2), NONE);
        due("far too many", x.limb(1, Integer.MAX_VALUE), NONE);
        due("above", x.limb(0, 0), 1);
        due("which 2", x.limb(2, 0), BAD);
        due("which -1", x.limb(-1, 0), BAD);
        due("i -1", x.limb(0, -1), BAD);
        due("i least", x.limb(1, Integer.MIN_VALUE), BAD);
        refused(x, 4, 0, 0);
    }

    private static void image() {
        promise = "33 image";
        WordOnPost x = withPlaces(1);
        due("image(0)", x.image(0), 1);
        due("image(1)", x.image(1), 1);
        due("image(2)", x.image(2), BAD);
        due("image(-1)", x.image(-1), BAD);
        x.place(5);
        due("image(1) again", x.image(1), 1);
        x.from(0);
        due("the one", x.count(0), 1);
        x.from(1);
        due("the other", x.count(0), 2);
        refused(x, 2, 0, 0);
    }

    private static void from() {
        promise = "34 from";
        WordOnPost x = new WordOnPost();
        due("none was kept", x.from(0), NO);
        due("from(2)", x.from(2), BAD);
        due("from(-1)", x.from(-1), BAD);
        fill(x);
        x.stone(5, 1, 0, 9, 1);
        long digest = x.digest();
        x.image(0);
        due("the other was not kept", x.from(1), NO);
        change(x);
        due("from(0)", x.from(0), 1);
        fraction(x, "the fraction goes on", 1, 2);
        refused(x, 2, 2, 0);
        x.stone(5, 1, 0, 9, 1);
        due("all is as it was", x.digest(), digest);
        change(x);
        due("it can be used again", x.from(0), 1);
        x.stone(5, 1, 0, 9, 1);
        due("all is as it was", x.digest(), digest);
        due("stories are read anew", x.at(0, 50), 1);
        due("images stay", x.from(0), 1);
        fromAnotherBeginning();
    }

    /** What is kept does not lie in the rows that another beginning fills. */
    private static void fromAnotherBeginning() {
        WordOnPost x = new WordOnPost();
        x.image(1);
        fill(x);
        x.image(0);
        long digest = x.digest();
        x.from(1);
        due("nothing is there", x.digest(), new WordOnPost().digest());
        x.place(1);
        x.place(2);
        x.place(3);
        x.lot(1);
        x.sign(0, 0, 0, 1);
        x.teller(0, 0, 0, 6, 1);
        x.days(0, 1, 1);
        x.from(0);
        due("all is as it was", x.digest(), digest);
    }

    private static void fill(WordOnPost x) {
        x.place(30);
        x.place(40);
        x.lot(7);
        x.rain(3, 8);
        x.put(0, 5);
        x.put(1, 7);
        x.kind(2, 0, 55);
        x.kind(2, 1, 4);
        x.prior(1, 6);
        text(x, 0, "go 50 1;");
        x.sign(1, 2, 3, 4);
        x.post(1, true);
        x.teller(2, 0, 70, 1, 8);
        x.days(1, 0, 6);
        x.storm(9, true);
    }

    private static void change(WordOnPost x) {
        x.place(60);
        x.lot(8);
        x.rain(3, 1);
        x.put(0, 1);
        x.put(1, 1);
        x.kind(2, 0, 1);
        x.kind(2, 1, 1);
        x.prior(1, 1);
        text(x, 0, "cross;");
        x.sign(0, 0, 1, 1);
        x.post(NONE, false);
        x.teller(1, 1, 1, 6, 1);
        x.days(1, 0, 1);
        x.days(2, 0, 3);
        x.storm(9, false);
        x.stone(5, 1, 0, 5, 5);
    }

    private static void status() {
        promise = "35 status";
        WordOnPost x = new WordOnPost();
        refused(x, 0, 0, 0);
        due("status(3)", x.status(3), -1);
        due("status(-1)", x.status(-1), -1);
        due("they count", x.status(0), 2);
        x.dry(0, 0, 0);
        x.many(4, 0, 1, 0);
        x.sails(0, 0, 0);
        due("-10 counts", x.status(0), 5);
        x.next();
        due("NO counts", x.status(1), 1);
        for (int i = 0; i < 5; i++) {
            x.lot(1);
        }
        due("FULL counts", x.status(2), 1);
        x.limb(0, 5);
        x.fault(0);
        refused(x, 5, 1, 1);
    }

    private static void count() {
        promise = "36 count";
        WordOnPost x = new WordOnPost();
        fill(x);
        int[] want = {2, 1, 1, 1, 8, 0, 0, 0};
        for (int i = 0; i < 8; i++) {
            due("count(" + i + ")", x.count(i), want[i]);
        }
        x.type(3, 0, 3);
        due("count(7)", x.count(7), 3);
        due("count(8)", x.count(8), BAD);
        due("count(-1)", x.count(-1), BAD);
        refused(x, 2, 0, 0);
    }

    private static void digest() {
        promise = "37 digest";
        int[] first = new int[8 + 10 + 2 + 8 + 4 + 3 + 60 + 3 + 1];
        for (int i = 0; i < 10; i++) {
            first[8 + i] = 5;
        }
        first[18] = 6;
        first[19] = 9;
        for (int i = 0; i < 4; i++) {
            first[20 + 2 * i] = 100;
            first[28 + i] = 1;
        }
        first[33] = NONE;
        first[97] = 1;
        first[98] = 1;
        due("a new one", new WordOnPost().digest(), mixed(first));

        WordOnPost x = new WordOnPost();
        fill(x);
        x.place(90);
        x.lot(9);
        x.teller(3, 1, 119, 6, 2);
        x.days(2, 0, 7);
        x.days(1, 2, 8);
        x.type(3, 0xe900ff, 3);
        x.stone(5, 12, 12, 9, 1);
        int[] head = {3, 2, 1, 2, 8, 0, 0, 3, 30, 40, 90, 5, 5, 5, 8, 5, 5, 5, 5, 5, 5, 7, 9, 5, 7,
            100, 0, 100, 0, 55, 4, 100, 0, 1, 'g', 'o', ' ', '5', '0', ' ', '1', ';', 6, 1, 1, 233, 0, 255,
            1, 2, 3, 4, 1, 1, 1, 2, 0, 70, 1, 8, 3, 1, 119, 6, 2, 6, 7, 8};
        int[] all = java.util.Arrays.copyOf(head, head.length + 60 + 6);
        all[head.length + 9] = 1;
        int[] tail = {1, 1, 2, 1, (int) (282429536482L % 1073741824L), (int) (282429536482L / 1073741824L)};
        System.arraycopy(tail, 0, all, head.length + 60, 6);
        due("one of all", x.digest(), mixed(all));
        long before = x.digest();
        x.place(-1);
        x.image(0);
        due("refusals and images are not in it", x.digest(), before);
    }
}
