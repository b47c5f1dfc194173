import java.math.BigInteger;

/**
 * Promises 14 to 22: each sentence of the document that names a boundary case. A comment ahead of
 * the checks says the sentence in the document's words; a label says what was done.
 */
public final class EdgesOfStoriesTest extends Due {
    public static void main(String[] args) {
        at();
        atOfOneMonth();
        must();
        mustIsCut();
        hunger();
        hungerOfYears();
        hungerOfLots();
        odds();
        oddsByHard();
        oddsWithoutWorlds();
        oddsOfMost();
        all();
        allWithoutLots();
        where();
        so();
        lost();
        next();
        nextOfLikeOnes();
        nextWithoutWeight();
        end("edges of stories and worlds");
    }

    private static void at() {
        promise = "14 at";
        WordOnPost x = new WordOnPost();
        // NO: a FAULT, no PLACES
        no(x, "no PLACES", () -> x.at(0, 0));
        bad(x, "BAD ahead of NO", () -> x.at(0, 120));
        text(x, 1, "join 0;");
        no(x, "no PLACES, though it names none", () -> x.at(1, 119));
        x.place(0);
        due("an empty TEXT, MONTH 0", x.at(0, 0), 0);
        due("an empty TEXT, MONTH 119", x.at(0, 119), 0);
        text(x, 2, "go 5 1;");
        no(x, "a PLACE that is not there", () -> x.at(2, 0));
        x.place(0);
        due("it is there", x.at(2, 5), 1);
        text(x, 3, "go 5 1");
        no(x, "a FAULT at the end", () -> x.at(3, 0));
        bad(x, "BAD ahead of NO", () -> x.at(3, -1));
        x.type(3, ';', 1);
        due("mended", x.at(3, 5), 1);
        bad(x, "STORY -1", () -> x.at(-1, 0));
        bad(x, "STORY 4", () -> x.at(4, 0));
        bad(x, "MONTH -1", () -> x.at(0, -1));
        bad(x, "MONTH 120", () -> x.at(0, 120));
    }

    private static void atOfOneMonth() {
        promise = "14 at, from a MONTH on";
        WordOnPost x = withPlaces(6);
        // AT PLACE 0 from MONTH 0 on, from a go on at its PLACE
        texts(x, "go 1 5;", "go 0 5;", "go 119 5;", "go 118 5;go 119 0;");
        due("MONTH 0", x.at(0, 0), 0);
        due("from MONTH 1 on", x.at(0, 1), 5);
        due("until the end", x.at(0, 119), 5);
        due("from MONTH 0 on", x.at(1, 0), 5);
        due("MONTH 118", x.at(2, 118), 0);
        due("in the last MONTH alone", x.at(2, 119), 5);
        due("in one MONTH alone", x.at(3, 118), 5);
        due("and back", x.at(3, 119), 0);
        // of two in one MONTH the last
        texts(x, "go 0 1;go 0 2;go 0 3;", "go 7 1;go 7 0;", "go 7 1;join 7;", "go 7 2;die 7;word 1;");
        due("the third", x.at(0, 0), 3);
        due("none but the last", x.at(0, 1), 3);
        due("back at once", x.at(1, 7), 0);
        due("a join is the last", x.at(2, 7), 6);
        due("not yet", x.at(2, 6), 0);
        due("a die is the last", x.at(3, 7), 7);
        // from a join on JOINED, from a die on DEAD
        texts(x, "join 0;", "die 0;", "join 119;", "die 119;");
        due("JOINED from MONTH 0 on", x.at(0, 0), 6);
        due("JOINED until the end", x.at(0, 119), 6);
        due("DEAD from MONTH 0 on", x.at(1, 0), 7);
        due("DEAD until the end", x.at(1, 119), 7);
        due("not yet JOINED", x.at(2, 118), 0);
        due("JOINED in the last MONTH", x.at(2, 119), 6);
        due("not yet DEAD", x.at(3, 118), 0);
        due("DEAD in the last MONTH", x.at(3, 119), 7);
    }

    private static void must() {
        promise = "15 must";
        WordOnPost x = new WordOnPost();
        bad(x, "no PLACES", () -> x.must(0, 0, 0));
        x.place(0);
        due("no LOTS", x.must(0, 0, 0), 0);
        x.kind(3, 0, 1);
        due("no LOTS, EACH 1", x.must(0, 0, 3), 0);
        text(x, 1, "?");
        // NO: a FAULT
        no(x, "a FAULT, no LOTS", () -> x.must(1, 0, 0));
        bad(x, "BAD ahead of NO", () -> x.must(1, 1, 0));
        bad(x, "BAD ahead of NO", () -> x.must(1, 0, 4));
        bad(x, "a PLACE that is not there", () -> x.must(0, 1, 0));
        bad(x, "PLACE -1", () -> x.must(0, -1, 0));
        bad(x, "KIND -1", () -> x.must(0, 0, -1));
        bad(x, "KIND 4", () -> x.must(0, 0, 4));
        bad(x, "STORY -1", () -> x.must(-1, 0, 0));
        bad(x, "STORY 4", () -> x.must(4, 0, 0));
    }

    private static void mustIsCut() {
        promise = "15 must, cut, 20 at most";
        WordOnPost x = withPlaces(2);
        x.lot(1);
        // all PEOPLE times MONTHS by EACH of the KIND (1 .. 999), cut
        texts(x, "", "go 119 1;", "go 0 1;die 119;", "join 0;");
        x.kind(0, 0, 120);
        x.kind(1, 0, 121);
        x.kind(2, 0, 1);
        x.kind(3, 0, 999);
        due("120 by 120", x.must(0, 0, 0), 1);
        due("120 by 121", x.must(0, 0, 1), 0);
        due("120 by 999", x.must(0, 0, 3), 0);
        due("119 by 120", x.must(1, 0, 0), 0);
        due("the last MONTH alone", x.must(1, 1, 2), 1);
        due("one MONTH by 120", x.must(1, 1, 0), 0);
        due("not there in MONTH 0", x.must(2, 0, 2), 0);
        due("JOINED from MONTH 0 on", x.must(3, 0, 2), 0);
        due("JOINED is no PLACE", x.must(3, 1, 2), 0);
        // 20 at most
        x.kind(0, 0, 6);
        due("just 20", x.must(0, 0, 0), 20);
        due("119 by 6 are 19", x.must(1, 0, 0), 19);
        x.kind(0, 0, 5);
        due("24 are 20", x.must(0, 0, 0), 20);
        due("120 are 20", x.must(0, 0, 2), 20);
        // the most PEOPLE for the longest: 60 by 4 by 120 are 28800
        WordOnPost y = withPlaces(1);
        for (int lot = 0; lot < 4; lot++) {
            y.lot(60);
        }
        y.kind(0, 0, 1);
        y.kind(1, 0, 999);
        due("28800 by 1", y.must(0, 0, 0), 20);
        due("28800 by 999 are 28", y.must(0, 0, 1), 20);
        // PEOPLE of all LOTS come together ahead of the cut: 2 and 3 for ten MONTHS by 50
        WordOnPost z = withPlaces(2);
        z.lot(2);
        z.lot(3);
        text(z, 0, "go 10 1;");
        z.kind(0, 0, 50);
        due("not 0 and 0", z.must(0, 0, 0), 1);
        // MONTHS come together ahead of the cut, too: two stays of five
        text(z, 1, "go 5 1;go 10 0;go 15 1;");
        due("two stays", z.must(1, 0, 0), 1);
        z.kind(0, 0, 51);
        due("one too few", z.must(1, 0, 0), 0);
    }

    private static void hunger() {
        promise = "16 hunger";
        WordOnPost x = new WordOnPost();
        // NO: a FAULT, no PLACES
        no(x, "no PLACES", () -> x.hunger(0));
        x.lot(60);
        no(x, "no PLACES, but a LOT", () -> x.hunger(3));
        bad(x, "STORY -1", () -> x.hunger(-1));
        bad(x, "STORY 4", () -> x.hunger(4));
        text(x, 1, "die 0");
        x.place(60);
        no(x, "a FAULT", () -> x.hunger(1));
        // in some MONTH more PEOPLE are AT it than it FEEDS then
        due("60 of 60", x.hunger(0), 0);
        x.lot(1);
        due("61 of 60", x.hunger(0), 10);
        x.rain(9, 6);
        due("61 of 72 in the last YEAR", x.hunger(0), 9);
        x.rain(0, 9);
        due("61 of 108 in the first YEAR", x.hunger(0), 8);
        text(x, 2, "die 0;");
        due("none is there", x.hunger(2), 0);
        WordOnPost y = new WordOnPost();
        y.place(0);
        due("no LOTS, and it FEEDS none", y.hunger(0), 0);
        y.lot(1);
        due("one LOT of one, and it FEEDS none", y.hunger(0), 10);
    }

    private static void hungerOfYears() {
        promise = "16 hunger, YEARS";
        WordOnPost x = new WordOnPost();
        x.place(200);
        x.place(0);
        x.lot(1);
        // YEARS 0 .. 9 of twelve MONTHS each; how many YEARS of PLACES there are
        for (int month = 0; month < 119; month++) {
            WordOnPost y = new WordOnPost();
            y.place(200);
            y.place(0);
            y.lot(1);
            text(y, 0, "go " + month + " 1;go " + (month + 1) + " 0;");
            due("MONTH " + month + " alone", y.hunger(0), 1);
            text(y, 1, "go " + month + " 1;");
            due("from MONTH " + month + " on", y.hunger(1), 10 - month / 12);
            if (month > 0) {
                text(y, 2, "go 0 1;go " + month + " 0;");
                due("until MONTH " + month, y.hunger(2), (month + 11) / 12);
            }
        }
        text(x, 0, "go 119 1;");
        due("MONTH 119 alone", x.hunger(0), 1);
        text(x, 0, "go 11 1;go 12 0;");
        due("the last MONTH of YEAR 0", x.hunger(0), 1);
        text(x, 0, "go 11 1;go 13 0;");
        due("the last of it and the first of the next", x.hunger(0), 2);
        text(x, 0, "go 12 1;go 13 0;go 23 1;go 24 0;");
        due("twice in one YEAR", x.hunger(0), 1);
        text(x, 0, "go 5 1;go 5 0;");
        due("not AT it for a MONTH", x.hunger(0), 0);
        // YEARS of PLACES: six PLACES in one YEAR
        WordOnPost z = new WordOnPost();
        for (int place = 0; place < 6; place++) {
            z.place(0);
        }
        z.lot(1);
        text(z, 0, "go 1 1;go 2 2;go 3 3;go 4 4;go 5 5;die 6;");
        due("six in one YEAR", z.hunger(0), 6);
        text(z, 0, "go 1 1;go 2 2;go 3 3;go 4 4;go 5 5;");
        due("six, and nine more", z.hunger(0), 15);
        // in one MONTH in which all STORIES tell of a go
        WordOnPost four = new WordOnPost();
        four.place(200);
        four.place(0);
        four.lot(1);
        for (int story = 0; story < 4; story++) {
            text(four, story, "go 30 1;go 31 0;");
        }
        for (int story = 0; story < 4; story++) {
            due("all go at once, STORY " + story, four.hunger(story), 1);
        }
        // as RAIN tells: 7 feed 7 * 4 by 5, cut, which are 5
        WordOnPost c = new WordOnPost();
        c.place(7);
        c.lot(6);
        due("6 of 7", c.hunger(0), 0);
        c.rain(4, 4);
        due("6 of 5", c.hunger(0), 1);
        c.rain(4, 5);
        due("6 of 7 again", c.hunger(0), 0);
    }

    private static void hungerOfLots() {
        promise = "16 hunger, if all LOTS live a STORY";
        WordOnPost x = new WordOnPost();
        for (int lot = 0; lot < 4; lot++) {
            x.lot(60);
        }
        x.place(200);
        due("240 of 200", x.hunger(0), 10);
        for (int year = 0; year < 10; year++) {
            x.rain(year, 6);
        }
        due("240 of 240", x.hunger(0), 0);
    }

    private static void odds() {
        promise = "17 odds";
        WordOnPost x = withPlaces(1);
        bad(x, "no LOTS", () -> x.odds(0, 0));
        x.lot(1);
        bad(x, "LOT 1 is not there", () -> x.odds(1, 0));
        bad(x, "LOT -1", () -> x.odds(-1, 0));
        bad(x, "STORY -1", () -> x.odds(0, -1));
        bad(x, "STORY 4", () -> x.odds(0, 4));
        // a WORLD gives each LOT a STORY that has no FAULT
        texts(x, "", "?", "?", "?");
        due("the only one", x.odds(0, 0), 1);
        fraction(x, "the only one", 1, 1);
        due("a FAULT", x.odds(0, 3), 1);
        fraction(x, "a FAULT", 0, 1);
        texts(x, "", "", "", "");
        x.odds(0, 3);
        fraction(x, "four alike", 1, 4);
        x.prior(3, 9);
        x.prior(2, 9);
        x.prior(1, 9);
        x.odds(0, 0);
        fraction(x, "1 of 28", 1, 28);
        x.odds(0, 3);
        fraction(x, "9 of 28", 9, 28);
        x.lot(60);
        x.lot(60);
        x.lot(60);
        x.put(0, 9);
        x.odds(3, 0);
        fraction(x, "LOT 3, nothing else weighs", 1, 28);
    }

    private static void oddsByHard() {
        promise = "17 odds, HARD";
        WordOnPost x = new WordOnPost();
        x.place(1);
        x.lot(1);
        x.lot(1);
        texts(x, "", "join 0;", "?", "?");
        // HARD of 9 (0 .. 9; 6 at first) for each HUNGER: both stay, or one, or none
        x.put(0, 9);
        x.odds(0, 0);
        fraction(x, "9 of 9 weighs nothing", 1, 2);
        x.put(0, 0);
        x.odds(0, 0);
        fraction(x, "0 of 9: not both of them", 1, 3);
        x.all(0);
        fraction(x, "not both", 0, 1);
        due("none dies", x.lost(0), 0);
        x.put(0, 1);
        x.all(0);
        fraction(x, "1 of 9, ten times", BigInteger.ONE, power(9, 10).multiply(BigInteger.valueOf(3)).add(BigInteger.ONE));
        // one YEAR of one PLACE alone in which there can be HUNGER
        WordOnPost one = withPlaces(1);
        one.lot(1);
        one.rain(3, 0);
        texts(one, "", "die 0;", "?", "?");
        one.odds(0, 0);
        fraction(one, "6 of 9 against 9 of 9", 6, 15);
        one.put(0, 0);
        one.odds(0, 0);
        fraction(one, "0 of 9 against 9 of 9", 0, 1);
        // 0 to the 0 is 1: no HUNGER, HARD 0
        WordOnPost y = withPlaces(1);
        y.lot(1);
        y.put(0, 0);
        due("no HUNGER", y.odds(0, 0), 1);
        fraction(y, "four alike", 1, 4);
        // HUNGER in all WORLDS, HARD 0: all WEIGHTS are 0
        WordOnPost z = new WordOnPost();
        z.place(0);
        z.lot(1);
        due("6 of 9 in all of them", z.odds(0, 0), 1);
        fraction(z, "four alike", 1, 4);
        z.put(0, 0);
        no(z, "0 of 9 in all of them", () -> z.odds(0, 0));
        text(z, 2, "die 0;");
        due("but one", z.odds(0, 2), 1);
        fraction(z, "but one", 1, 1);
    }

    private static void oddsWithoutWorlds() {
        promise = "17 odds, NO";
        WordOnPost x = new WordOnPost();
        x.lot(1);
        x.teller(0, 0, 0, 7, 5);
        x.stone(5, 1, 0, 9, 1);
        // NO (no PLACES, too; likewise below)
        noneOfThem(x, "no PLACES");
        bad(x, "BAD ahead of NO", () -> x.odds(1, 0));
        bad(x, "BAD ahead of NO", () -> x.all(4));
        bad(x, "BAD ahead of NO", () -> x.where(0, 120, 6));
        bad(x, "BAD ahead of NO, no PLACE there", () -> x.where(0, 0, 0));
        bad(x, "BAD ahead of NO", () -> x.so(1));
        bad(x, "BAD ahead of NO", () -> x.lost(1));
        // or there is none
        x.place(100);
        texts(x, "?", "?", "?", "?");
        noneOfThem(x, "no STORY without a FAULT");
        // all WEIGHTS are 0
        text(x, 1, "");
        x.image(0);
        x.sign(0, 0, 9, 10);
        noneOfThem(x, "nine found of one");
        fraction(x, "THE FRACTION is as it was", 9, 10);
        x.from(0);
        due("a WORLD again", x.odds(0, 1), 1);
        fraction(x, "one of one", 1, 1);
    }

    private static void noneOfThem(WordOnPost x, String why) {
        no(x, "odds, " + why, () -> x.odds(0, 0));
        no(x, "all, " + why, () -> x.all(0));
        no(x, "where, " + why, () -> x.where(0, 0, 6));
        no(x, "so, " + why, () -> x.so(0));
        no(x, "lost, " + why, () -> x.lost(0));
        no(x, "next, " + why, () -> x.next());
    }

    /** The greatest weights the document allows: 256 worlds, six signs, six tellers, the post, much hunger. */
    private static void oddsOfMost() {
        promise = "17 odds, the greatest WEIGHTS";
        WordOnPost x = new WordOnPost();
        Model model = new Model();
        for (int place = 0; place < 6; place++) {
            due("place", x.place(0), model.place(0));
        }
        for (int lot = 0; lot < 4; lot++) {
            due("lot", x.lot(60 - lot), model.lot(60 - lot));
        }
        String[] texts = {"go 3 1;go 15 2;go 30 3;go 45 4;go 60 5;", "go 1 5;go 40 4;go 77 3;", "", "go 119 1;cross;word 5;"};
        for (int story = 0; story < 4; story++) {
            text(x, story, texts[story]);
            for (char c : texts[story].toCharArray()) {
                model.type(story, c, 1);
            }
            due("prior", x.prior(story, 9 - story), model.prior(story, 9 - story));
        }
        for (int kind = 0; kind < 4; kind++) {
            due("EACH", x.kind(kind, 0, 997), model.kind(kind, 0, 997));
            due("CARRIED", x.kind(kind, 1, 9 - kind), model.kind(kind, 1, 9 - kind));
        }
        for (int sign = 0; sign < 6; sign++) {
            due("sign", x.sign(sign, sign % 4, 9, 3 + sign), model.sign(sign, sign % 4, 9, 3 + sign));
        }
        for (int teller = 0; teller < 6; teller++) {
            int lot = teller % 4;
            due("teller", x.teller(teller, lot, 20 * teller, teller, 9), model.teller(teller, lot, 20 * teller, teller, 9));
        }
        due("post", x.post(5, true), model.post(5, true));
        for (int hard : new int[] {8, 1, 0, 9}) {
            due("HARD", x.put(0, hard), model.put(0, hard));
            for (int story = 0; story < 4; story++) {
                due("odds", x.odds(3, story), model.odds(3, story));
                due("THE FRACTION", x.digest(), model.digest());
            }
        }
    }

    private static void all() {
        promise = "18 all";
        WordOnPost x = withPlaces(1);
        x.lot(1);
        texts(x, "", "", "", "?");
        // in which all LOTS do (a STORY with a FAULT: none)
        x.all(0);
        fraction(x, "one LOT", 1, 3);
        x.lot(1);
        x.lot(1);
        x.lot(1);
        x.all(2);
        fraction(x, "four LOTS", 1, 81);
        due("a FAULT", x.all(3), 1);
        fraction(x, "a FAULT", 0, 1);
        bad(x, "STORY -1", () -> x.all(-1));
        bad(x, "STORY 4", () -> x.all(4));
        texts(x, "", "?", "?", "?");
        x.all(0);
        fraction(x, "the only one", 1, 1);
    }

    private static void allWithoutLots() {
        promise = "18 all, without LOTS";
        WordOnPost x = new WordOnPost();
        no(x, "no PLACES", () -> x.all(0));
        x.place(0);
        // without LOTS there is one (WORLD)
        due("all(0)", x.all(0), 1);
        fraction(x, "all of none", 1, 1);
        text(x, 1, "?");
        due("a FAULT", x.all(1), 1);
        fraction(x, "a FAULT: none", 0, 1);
        texts(x, "?", "?", "?", "?");
        due("still one", x.all(2), 1);
        fraction(x, "a FAULT: none", 0, 1);
        text(x, 2, "");
        x.put(0, 0);
        due("none is there, none hungers", x.all(2), 1);
        fraction(x, "all of none", 1, 1);
        // SIGNS weigh in it, none being LEFT
        x.sign(0, 0, 0, 10);
        due("none found", x.all(2), 1);
        x.sign(0, 1, 1, 1);
        no(x, "one found", () -> x.all(2));
        no(x, "one found", () -> x.next());
        x.kind(1, 1, 1);
        due("but carried", x.all(2), 1);
        fraction(x, "all of none", 1, 1);
        bad(x, "STORY 4", () -> x.all(4));
    }

    private static void where() {
        promise = "19 where";
        WordOnPost x = withPlaces(2);
        bad(x, "no LOTS", () -> x.where(0, 0, 0));
        x.lot(1);
        texts(x, "go 1 1;", "join 119;", "die 119;", "?");
        // MONTHS 0 .. 119; (a PLACE there, 6, 7)
        x.where(0, 0, 0);
        fraction(x, "all in MONTH 0", 1, 1);
        x.where(0, 0, 1);
        fraction(x, "none in MONTH 0", 0, 1);
        x.where(0, 1, 1);
        fraction(x, "one in MONTH 1", 1, 3);
        x.where(0, 118, 6);
        fraction(x, "not yet JOINED", 0, 1);
        x.where(0, 119, 6);
        fraction(x, "JOINED", 1, 3);
        x.where(0, 119, 7);
        fraction(x, "DEAD", 1, 3);
        x.where(0, 119, 0);
        fraction(x, "none is there any more, but who has a FAULT", 0, 1);
        bad(x, "a PLACE that is not there", () -> x.where(0, 0, 2));
        bad(x, "PLACE 5", () -> x.where(0, 0, 5));
        bad(x, "where 8", () -> x.where(0, 0, 8));
        bad(x, "where -1", () -> x.where(0, 0, -1));
        bad(x, "MONTH 120", () -> x.where(0, 120, 0));
        bad(x, "MONTH -1", () -> x.where(0, -1, 0));
        bad(x, "LOT 1", () -> x.where(1, 0, 0));
        bad(x, "LOT -1", () -> x.where(-1, 0, 0));
        for (int place = 2; place < 6; place++) {
            x.place(1);
        }
        due("PLACE 5 is there", x.where(0, 0, 5), 1);
        fraction(x, "none is", 0, 1);
    }

    private static void so() {
        promise = "20 so";
        WordOnPost x = withPlaces(2);
        x.lot(1);
        x.lot(1);
        texts(x, "go 119 1;", "die 119;", "join 0;", "?");
        bad(x, "no TELLERS", () -> x.so(0));
        x.image(0);
        x.teller(5, 1, 119, 7, 5);
        due("the first", x.so(0), 1);
        fraction(x, "5 of 10 tells nothing", 1, 3);
        bad(x, "TELLER 1", () -> x.so(1));
        bad(x, "TELLER -1", () -> x.so(-1));
        x.teller(5, 1, 119, 1, 9);
        x.so(1);
        fraction(x, "not heard, but asked", 1, 3);
        x.teller(0, 1, 0, 6, 9);
        x.so(2);
        fraction(x, "9 of 11", 9, 11);
        x.so(0);
        fraction(x, "1 of 11", 1, 11);
        for (int teller = 3; teller < 6; teller++) {
            x.teller(0, 0, 0, 0, 5);
        }
        due("TELLER 5", x.so(5), 1);
        fraction(x, "of LOT 0", 2, 3);
        bad(x, "TELLER 6", () -> x.so(6));
        x.from(0);
        bad(x, "none again", () -> x.so(0));
    }

    private static void lost() {
        promise = "21 lost";
        WordOnPost x = withPlaces(1);
        bad(x, "no LOTS", () -> x.lost(0));
        x.lot(1);
        bad(x, "LOT 1", () -> x.lost(1));
        bad(x, "LOT -1", () -> x.lost(-1));
        x.lot(2);
        // in MONTH 119: 0 never DEAD, 1 always, 2 open
        texts(x, "", "join 0;", "?", "?");
        due("never: JOINED is not DEAD", x.lost(1), 0);
        text(x, 2, "die 119;");
        due("open: in the last MONTH", x.lost(1), 2);
        texts(x, "die 119;", "die 0;", "die 5;", "die 119");
        due("always: a FAULT does not count", x.lost(0), 1);
        x.type(3, ';', 1);
        due("always: all four", x.lost(0), 1);
        text(x, 0, "join 119;");
        due("open: one of four", x.lost(1), 2);
        // by all WORLDS of some WEIGHT
        texts(x, "", "die 0;", "?", "?");
        x.image(0);
        x.put(0, 0);
        for (int year = 0; year < 10; year++) {
            x.rain(year, 0);
        }
        due("none can live there: always", x.lost(0), 1);
        x.from(0);
        due("open", x.lost(0), 2);
        x.kind(0, 0, 120);
        x.sign(0, 0, 2, 10);
        due("2 of LOT 1's, and LOT 0 was DEAD", x.lost(0), 1);
        due("2 of LOT 1's", x.lost(1), 0);
        fraction(x, "THE FRACTION is not touched", 0, 1);
    }

    private static void next() {
        promise = "22 next";
        WordOnPost x = new WordOnPost();
        no(x, "no PLACES", () -> x.next());
        x.place(100);
        due("no LOTS", x.next(), NONE);
        x.lot(1);
        due("four alike", x.next(), NONE);
        // none: there is no such one that differs
        texts(x, "", "die 0;", "?", "?");
        due("1 against 0, KIND 0", x.next(), 0);
        x.kind(0, 0, 999);
        due("KIND 1", x.next(), 1);
        x.kind(1, 0, 121);
        due("KIND 2", x.next(), 2);
        x.kind(2, 0, 121);
        due("KIND 3", x.next(), 3);
        x.kind(3, 0, 120);
        due("just one", x.next(), 3);
        x.kind(3, 0, 121);
        due("cut: none differs", x.next(), NONE);
        x.kind(3, 0, 120);
        text(x, 1, "?");
        due("one STORY alone", x.next(), NONE);
        // 10 times the PLACE, and the KIND
        WordOnPost y = withPlaces(6);
        y.lot(1);
        texts(y, "go 0 5;", "die 0;", "?", "?");
        y.kind(0, 0, 999);
        y.kind(1, 0, 999);
        y.kind(2, 0, 999);
        due("PLACE 5, KIND 3", y.next(), 53);
    }

    private static void nextOfLikeOnes() {
        promise = "22 next, of like ones";
        // of like ones the least PLACE, then KIND
        WordOnPost x = withPlaces(3);
        x.lot(1);
        texts(x, "go 0 1;", "go 0 2;", "?", "?");
        due("PLACES 1 and 2, KINDS 0 to 3", x.next(), 10);
        // KINDS at PLACES of which there is no SIGN
        x.sign(1, 0, 0, 5);
        due("KIND 1", x.next(), 11);
        x.kind(2, 0, 60);
        due("the greatest", x.next(), 12);
        x.sign(1, 2, 0, 5);
        due("the greatest elsewhere", x.next(), 22);
        x.sign(2, 2, 0, 5);
        due("like ones again", x.next(), 11);
        x.sign(1, 1, 0, 5);
        due("the last KIND there", x.next(), 13);
        x.sign(1, 3, 0, 5);
        due("the next PLACE", x.next(), 20);
        x.sign(2, 0, 0, 5);
        due("the next KIND", x.next(), 21);
        // between any two STORIES, in either order
        WordOnPost y = withPlaces(1);
        y.lot(1);
        y.kind(0, 0, 30);
        texts(y, "", "", "die 90;", "die 30;");
        due("4 by 3 by 1", y.next(), 0);
        y.kind(1, 0, 6);
        y.kind(2, 0, 5);
        // KIND 1: 20, 15, 5; KIND 2: 20 (24), 18, 6
        due("15 against 14: 20 at most", y.next(), 1);
        texts(y, "die 30;", "die 90;", "", "");
        due("the other way round", y.next(), 1);
        // all have a SIGN: none
        WordOnPost z = withPlaces(1);
        z.lot(1);
        texts(z, "", "die 0;", "?", "?");
        for (int kind = 0; kind < 4; kind++) {
            due("before", z.next(), kind);
            z.sign(0, kind, 0, 5);
        }
        due("a SIGN of each", z.next(), NONE);
    }

    private static void nextWithoutWeight() {
        promise = "22 next, ALL above 0";
        // two STORIES with ALL above 0: two LOTS, of which not both can have died
        WordOnPost x = withPlaces(2);
        x.lot(1);
        x.lot(1);
        x.kind(0, 0, 120);
        texts(x, "", "die 0;", "?", "?");
        due("2 against 0", x.next(), 0);
        x.sign(0, 0, 1, 10);
        // one of them stays: ALL is 0 for both STORIES, though there are WORLDS
        due("odds", x.odds(0, 0), 1);
        fraction(x, "one of two", 1, 2);
        x.all(0);
        fraction(x, "all(0)", 0, 1);
        x.all(1);
        fraction(x, "all(1)", 0, 1);
        due("no STORY with ALL above 0", x.next(), NONE);
        x.kind(0, 1, 1);
        due("with what was carried one of them", x.next(), NONE);
        // no WORLD of some WEIGHT
        WordOnPost y = withPlaces(1);
        y.lot(1);
        y.sign(0, 0, 9, 10);
        no(y, "no WORLD", () -> y.next());
    }
}
