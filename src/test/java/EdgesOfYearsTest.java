import java.math.BigInteger;

/**
 * Promises 23 to 30: each sentence of the document that names a boundary case. A comment ahead of
 * the checks says the sentence in the document's words; a label says what was done.
 */
public final class EdgesOfYearsTest extends Due {
    public static void main(String[] args) {
        fed();
        dry();
        dryRows();
        many();
        manyByAllNumbers();
        stone();
        stoneByAllNumbers();
        days();
        storm();
        sails();
        sailsByLegs();
        sailsThroughStorms();
        back();
        backThroughStorms();
        end("edges of years, things and ships");
    }

    private static void fed() {
        promise = "23 fed";
        WordOnPost x = new WordOnPost();
        bad(x, "no PLACES", () -> x.fed(0, 0));
        // FED of a PLACE in a YEAR: FEED times RAIN by 5, cut
        for (int feeds : new int[] {0, 1, 7, 199, 200}) {
            x.place(feeds);
        }
        for (int rain = 0; rain <= 9; rain++) {
            x.rain(rain, rain);
        }
        due("0 by most rain", x.fed(0, 9), 0);
        due("1 by RAIN 4", x.fed(1, 4), 0);
        due("1 by RAIN 5", x.fed(1, 5), 1);
        due("1 by RAIN 9", x.fed(1, 9), 1);
        due("7 by RAIN 4: 28 by 5", x.fed(2, 4), 5);
        due("7 by RAIN 1: 7 by 5", x.fed(2, 1), 1);
        due("199 by RAIN 9: 1791 by 5", x.fed(3, 9), 358);
        due("200 by RAIN 9, more than it FEEDS at first", x.fed(4, 9), 360);
        due("200 by RAIN 0", x.fed(4, 0), 0);
        bad(x, "a PLACE that is not there", () -> x.fed(5, 0));
        bad(x, "PLACE -1", () -> x.fed(-1, 0));
        bad(x, "YEAR -1", () -> x.fed(0, -1));
        bad(x, "YEAR 10", () -> x.fed(0, 10));
    }

    private static WordOnPost withRain(int... rain) {
        WordOnPost x = new WordOnPost();
        x.place(100);
        for (int year = 0; year < rain.length; year++) {
            x.rain(year, rain[year]);
        }
        return x;
    }

    private static void dry(WordOnPost x, String call, int n, int first, int length) {
        due(call + ", the first", x.dry(0, n, 0), first);
        due(call + ", how many", x.dry(0, n, 1), length);
    }

    private static void dry() {
        promise = "24 dry";
        WordOnPost x = new WordOnPost();
        // BAD: -10
        bad(x, "no PLACES", () -> x.dry(0, 0, 0), WORSE);
        x.place(100);
        // below n (0 .. 999)
        dry(x, "less than 0 is none", 0, NONE, 0);
        dry(x, "less than 1", 1, NONE, 0);
        dry(x, "100 is not less than 100", 100, NONE, 0);
        dry(x, "100 is less than 101", 101, 0, 10);
        dry(x, "the most", 999, 0, 10);
        bad(x, "n -1", () -> x.dry(0, -1, 0), WORSE);
        bad(x, "n 1000", () -> x.dry(0, 1000, 1), WORSE);
        bad(x, "what -1", () -> x.dry(0, 5, -1), WORSE);
        bad(x, "what 2", () -> x.dry(0, 5, 2), WORSE);
        bad(x, "a PLACE that is not there", () -> x.dry(1, 5, 0), WORSE);
        bad(x, "PLACE -1", () -> x.dry(-1, 5, 0), WORSE);
        x.place(0);
        due("a PLACE that FEEDS none", x.dry(1, 1, 1), 10);
        due("not less than 0", x.dry(1, 0, 1), 0);
    }

    private static void dryRows() {
        promise = "24 dry, rows";
        // the longest row of YEARS, the first of like ones
        dry(withRain(0, 5, 5, 5, 5, 5, 5, 5, 5, 5), "the first YEAR", 1, 0, 1);
        dry(withRain(5, 5, 5, 5, 5, 5, 5, 5, 5, 0), "the last YEAR", 1, 9, 1);
        dry(withRain(5, 5, 5, 5, 5, 5, 5, 5, 0, 0), "the last two", 1, 8, 2);
        dry(withRain(0, 5, 5, 5, 5, 5, 5, 5, 5, 0), "like ones, first and last", 1, 0, 1);
        dry(withRain(0, 5, 5, 5, 5, 5, 5, 5, 0, 0), "the longer one is the last", 1, 8, 2);
        dry(withRain(0, 0, 5, 5, 5, 5, 5, 5, 5, 0), "the longer one is the first", 1, 0, 2);
        dry(withRain(0, 0, 0, 0, 5, 0, 0, 0, 0, 0), "4 and 5", 1, 5, 5);
        dry(withRain(0, 0, 0, 0, 0, 5, 0, 0, 0, 0), "5 and 4", 1, 0, 5);
        dry(withRain(0, 5, 0, 5, 0, 5, 0, 5, 0, 5), "five of one", 1, 0, 1);
        dry(withRain(0, 0, 5, 0, 0, 5, 0, 0, 5, 0), "three of two", 1, 0, 2);
        dry(withRain(5, 0, 0, 0, 0, 0, 0, 0, 0, 5), "all but the ends", 1, 1, 8);
        dry(withRain(0, 0, 0, 0, 0, 0, 0, 0, 0, 0), "all", 1, 0, 10);
        dry(withRain(0, 0, 0, 0, 0, 0, 0, 0, 0, 0), "all, but 0 is not less than 0", 0, NONE, 0);
        dry(withRain(4, 5, 3, 4, 5, 4, 4, 5, 9, 0), "80 is not less than 80", 80, 2, 1);
        dry(withRain(4, 5, 3, 4, 5, 4, 4, 5, 9, 0), "but less than 81", 81, 2, 2);
    }

    private static void many(WordOnPost x, String call, int kind, int c, int months, int few, int most) {
        due(call + ", how few", x.many(kind, c, months, 0), few);
        due(call + ", how many", x.many(kind, c, months, 1), most);
    }

    private static void many() {
        promise = "25 many";
        WordOnPost x = new WordOnPost();
        // c 0 .. 20, MONTHS (1 .. 120), 0 .. 999 PEOPLE; none
        many(x, "none left in one MONTH", 0, 0, 1, 0, 99);
        many(x, "none left in 120", 0, 0, 120, 0, 0);
        many(x, "one left in one", 0, 1, 1, 100, 199);
        many(x, "nine left in one", 0, 9, 1, 900, 999);
        many(x, "ten left in one: 1000 PEOPLE", 0, 10, 1, NONE, NONE);
        many(x, "twenty left in 120", 0, 20, 120, 17, 17);
        many(x, "twenty left in three, just that", 0, 20, 3, 667, 699);
        many(x, "twenty left in two: 1000 PEOPLE", 0, 20, 2, NONE, NONE);
        x.kind(1, 0, 1);
        many(x, "EACH 1, none in one", 1, 0, 1, 0, 0);
        many(x, "EACH 1, twenty in one", 1, 20, 1, 20, 20);
        many(x, "EACH 1, one in two: no PEOPLE", 1, 1, 2, NONE, NONE);
        many(x, "EACH 1, two in two", 1, 2, 2, 1, 1);
        many(x, "EACH 1, 20 in 120: no PEOPLE", 1, 20, 120, NONE, NONE);
        many(x, "EACH 1, none in 120", 1, 0, 120, 0, 0);
        x.kind(2, 0, 999);
        many(x, "EACH 999, none in one", 2, 0, 1, 0, 998);
        many(x, "EACH 999, one in one: 999 alone", 2, 1, 1, 999, 999);
        many(x, "EACH 999, two in one", 2, 2, 1, NONE, NONE);
        many(x, "EACH 999, 20 in 20", 2, 20, 20, 999, 999);
        many(x, "EACH 999, 20 in 21", 2, 20, 21, 952, 998);
        many(x, "EACH 999, 20 in 120", 2, 20, 120, 167, 174);
        bad(x, "KIND -1", () -> x.many(-1, 0, 1, 0), WORSE);
        bad(x, "KIND 4", () -> x.many(4, 0, 1, 0), WORSE);
        bad(x, "c -1", () -> x.many(0, -1, 1, 0), WORSE);
        bad(x, "c 21", () -> x.many(0, 21, 1, 1), WORSE);
        bad(x, "no MONTHS", () -> x.many(0, 0, 0, 0), WORSE);
        bad(x, "121 MONTHS", () -> x.many(0, 0, 121, 0), WORSE);
        bad(x, "what -1", () -> x.many(0, 0, 1, -1), WORSE);
        bad(x, "what 2", () -> x.many(0, 0, 1, 2), WORSE);
    }

    /** All c and MONTHS by some EACH, against all PEOPLE one by one. */
    private static void manyByAllNumbers() {
        promise = "25 many, all numbers";
        for (int each : new int[] {1, 2, 19, 100, 119, 120, 121, 500, 998, 999}) {
            for (int months = 1; months <= 120; months++) {
                WordOnPost x = new WordOnPost();
                x.kind(3, 0, each);
                int[] few = new int[21];
                int[] most = new int[21];
                java.util.Arrays.fill(few, NONE);
                java.util.Arrays.fill(most, NONE);
                for (int people = 999; people >= 0; people--) {
                    int c = people * months / each;
                    if (c <= 20) {
                        few[c] = people;
                        most[c] = Math.max(most[c], people);
                    }
                }
                for (int c = 0; c <= 20; c++) {
                    many(x, c + " in " + months + " by " + each, 3, c, months, few[c], most[c]);
                }
            }
        }
    }

    private static void stone() {
        promise = "26 stone";
        WordOnPost x = new WordOnPost();
        // forged with p of 10 (0 .. 10)
        due("p 0", x.stone(0, 1, 1, 1, 9), 1);
        fraction(x, "surely not", 0, 1);
        due("p 10", x.stone(10, 1, 1, 9, 1), 1);
        fraction(x, "surely", 1, 1);
        due("p 10, n 12", x.stone(10, 12, 12, 9, 1), 1);
        fraction(x, "surely", 1, 1);
        x.stone(1, 1, 0, 5, 5);
        fraction(x, "letters that tell nothing", 1, 10);
        // letters n (1 .. 12), k right (0 .. n)
        x.stone(5, 12, 0, 1, 9);
        fraction(x, "all wrong: 1 by 1 and 9 to the 12", BigInteger.ONE, power(9, 12).add(BigInteger.ONE));
        x.stone(5, 12, 12, 1, 9);
        fraction(x, "all right", power(9, 12), power(9, 12).add(BigInteger.ONE));
        x.stone(5, 12, 6, 1, 9);
        fraction(x, "half of them", 1, 2);
        x.stone(9, 12, 12, 1, 9);
        fraction(x, "9 of 10, all right", power(9, 13), power(9, 13).add(BigInteger.ONE));
        long digest = x.digest();
        bad(x, "p -1", () -> x.stone(-1, 1, 0, 5, 5));
        bad(x, "p 11", () -> x.stone(11, 1, 0, 5, 5));
        bad(x, "n 0", () -> x.stone(5, 0, 0, 5, 5));
        bad(x, "n 13", () -> x.stone(5, 13, 0, 5, 5));
        bad(x, "k -1", () -> x.stone(5, 1, -1, 5, 5));
        bad(x, "k more than n", () -> x.stone(5, 1, 2, 5, 5));
        bad(x, "k 13", () -> x.stone(5, 12, 13, 5, 5));
        bad(x, "t 0", () -> x.stone(5, 1, 0, 0, 5));
        bad(x, "t 10", () -> x.stone(5, 1, 0, 10, 5));
        bad(x, "f 0", () -> x.stone(5, 1, 0, 5, 0));
        bad(x, "f 10", () -> x.stone(5, 1, 0, 5, 10));
        due("THE FRACTION is as it was", x.digest(), digest);
    }

    private static void stoneByAllNumbers() {
        promise = "26 stone, all numbers";
        for (int p = 0; p <= 10; p++) {
            for (int n = 1; n <= 12; n++) {
                WordOnPost x = new WordOnPost();
                for (int k = 0; k <= n; k++) {
                    int t = 1 + (p + n + k) % 9;
                    int f = 1 + (p + 2 * n + 3 * k) % 9;
                    x.stone(p, n, k, t, f);
                    BigInteger forged = power(f, k).multiply(power(10 - f, n - k)).multiply(BigInteger.valueOf(p));
                    BigInteger real = power(t, k).multiply(power(10 - t, n - k)).multiply(BigInteger.valueOf(10 - p));
                    String call = "stone(" + p + ", " + n + ", " + k + ", " + t + ", " + f + ")";
                    fraction(x, call, forged, forged.add(real));
                }
            }
        }
    }

    private static void days() {
        promise = "27 days";
        WordOnPost x = new WordOnPost();
        bad(x, "no PLACES", () -> x.days(0, 1, 5));
        x.place(1);
        bad(x, "one PLACE", () -> x.days(0, 1, 5));
        // BAD: alike, too
        bad(x, "alike", () -> x.days(0, 0, 5));
        x.place(1);
        x.place(1);
        // 0 .. 20, either way; 0: no way; 0 at first
        due("0 at first", x.days(0, 1, 20), 0);
        due("either way", x.days(1, 0, 1), 20);
        due("what they were", x.days(0, 1, 0), 1);
        due("no way", x.sails(0, 1, 0), NONE);
        due("no way back", x.sails(1, 0, 0), NONE);
        due("none yet", x.days(1, 0, 20), 0);
        bad(x, "alike, the last", () -> x.days(2, 2, 0));
        bad(x, "n -1", () -> x.days(0, 1, -1));
        bad(x, "n 21", () -> x.days(0, 1, 21));
        bad(x, "a -1", () -> x.days(-1, 1, 5));
        bad(x, "b -1", () -> x.days(1, -1, 5));
        bad(x, "a that is not there", () -> x.days(3, 1, 5));
        bad(x, "b that is not there", () -> x.days(1, 3, 5));
        bad(x, "neither is there, and alike", () -> x.days(3, 3, 5));
        // with an IMAGE the ways are gone, too
        x.image(0);
        x.place(1);
        x.days(3, 0, 7);
        x.from(0);
        x.place(1);
        due("a new PLACE has no way", x.days(0, 3, 1), 0);
    }

    private static void storm() {
        promise = "28 storm";
        WordOnPost x = new WordOnPost();
        // days of 0 .. 59; NO: it is so
        for (int day : new int[] {0, 1, 58, 59}) {
            no(x, "none on day " + day, () -> x.storm(day, false));
            due("day " + day, x.storm(day, true), 1);
            no(x, "one on day " + day, () -> x.storm(day, true));
        }
        due("gone", x.storm(59, false), 1);
        no(x, "gone already", () -> x.storm(59, false));
        due("the others stay", x.storm(58, true), NO);
        bad(x, "day -1", () -> x.storm(-1, true));
        bad(x, "day 60", () -> x.storm(60, true));
        bad(x, "day -1, none", () -> x.storm(-1, false));
        bad(x, "day 60, none", () -> x.storm(60, false));
    }

    private static void sails() {
        promise = "29 sails";
        WordOnPost x = new WordOnPost();
        // BAD: -10
        bad(x, "no PLACES", () -> x.sails(0, 0, 0), WORSE);
        x.place(1);
        // the same one: that day
        due("day 0", x.sails(0, 0, 0), 0);
        due("day 59", x.sails(0, 0, 59), 59);
        x.storm(59, true);
        due("a STORM is no matter", x.sails(0, 0, 59), 59);
        bad(x, "day -1", () -> x.sails(0, 0, -1), WORSE);
        bad(x, "day 60", () -> x.sails(0, 0, 60), WORSE);
        bad(x, "to that is not there", () -> x.sails(0, 1, 0), WORSE);
        bad(x, "from that is not there", () -> x.sails(1, 0, 0), WORSE);
        bad(x, "from -1", () -> x.sails(-1, 0, 0), WORSE);
        bad(x, "to -1", () -> x.sails(0, -1, 0), WORSE);
        // none: no way
        x.place(1);
        due("no way", x.sails(0, 1, 0), NONE);
        x.days(0, 1, 1);
        due("the shortest leg", x.sails(0, 1, 0), 1);
        due("the other way", x.sails(1, 0, 0), 1);
        x.days(0, 1, 20);
        due("the longest leg", x.sails(0, 1, 0), 20);
        x.storm(59, false);
        due("from the last day on", x.sails(0, 1, 59), 79);
        due("to the last day", x.sails(0, 1, 39), 59);
        due("to the day behind it", x.sails(0, 1, 40), 60);
    }

    private static void sailsByLegs() {
        promise = "29 sails, by legs";
        WordOnPost x = withPlaces(6);
        // goes by legs, as it likes best
        for (int place = 0; place < 5; place++) {
            x.days(place, place + 1, 20);
        }
        due("five legs", x.sails(0, 5, 0), 100);
        due("five legs back", x.sails(5, 0, 59), 159);
        x.days(0, 5, 20);
        due("one leg", x.sails(0, 5, 0), 20);
        due("by the end", x.sails(0, 4, 0), 40);
        due("either way round", x.sails(0, 3, 0), 60);
        x.days(0, 5, 0);
        x.days(2, 3, 0);
        due("cut in two", x.sails(0, 3, 0), NONE);
        due("cut in two", x.sails(5, 2, 0), NONE);
        due("on this side", x.sails(0, 2, 0), 40);
        // like ones: two legs of 10 and one of 20
        x.days(0, 2, 20);
        x.days(0, 1, 10);
        x.days(1, 2, 10);
        due("like ones", x.sails(0, 2, 0), 20);
        x.days(1, 2, 9);
        due("two legs are shorter", x.sails(0, 2, 0), 19);
        x.days(1, 2, 11);
        due("one leg is shorter", x.sails(0, 2, 0), 20);
    }

    private static void sailsThroughStorms() {
        promise = "29 sails, STORMS";
        WordOnPost x = withPlaces(3);
        x.days(0, 1, 1);
        x.days(1, 2, 1);
        // a leg of n DAYS takes n days that are no STORM (from that day on)
        x.storm(0, true);
        due("it waits", x.sails(0, 1, 0), 2);
        due("not for what is over", x.sails(0, 1, 1), 2);
        x.storm(2, true);
        // it is there on the day behind the last of them
        due("there on a day of STORM", x.sails(0, 1, 1), 2);
        due("the next leg waits", x.sails(0, 2, 1), 4);
        // from day 60 on there are none
        for (int day = 0; day < 60; day++) {
            if (day != 0 && day != 2) {
                x.storm(day, true);
            }
        }
        due("STORMS on all days, from day 0", x.sails(0, 1, 0), 61);
        due("STORMS on all days, from day 59", x.sails(0, 1, 59), 61);
        due("two legs", x.sails(0, 2, 0), 62);
        due("the same PLACE", x.sails(2, 2, 0), 0);
        x.storm(59, false);
        due("one day left", x.sails(0, 1, 0), 60);
        due("and one behind it", x.sails(0, 2, 0), 61);
        x.storm(0, false);
        due("the first and the last day", x.sails(0, 2, 0), 60);
        x.days(0, 1, 2);
        due("one leg through all of it", x.sails(0, 1, 0), 60);
        due("from day 1 on", x.sails(0, 1, 1), 61);
        x.days(0, 1, 20);
        due("the longest leg", x.sails(0, 1, 0), 78);
    }

    private static void back() {
        promise = "30 back";
        WordOnPost x = new WordOnPost();
        bad(x, "no PLACES", () -> x.back(0, 0, 0, 0, 0));
        x.place(1);
        // stay so many days (0 .. 59), and be back no later than a day (0 .. 999)
        due("the same PLACE, all 0", x.back(0, 0, 0, 0, 0), 1);
        due("the same PLACE, it stays too long", x.back(0, 0, 0, 1, 0), 0);
        due("the same PLACE, just in time", x.back(0, 0, 59, 59, 118), 1);
        due("the same PLACE, a day late", x.back(0, 0, 59, 59, 117), 0);
        due("gone on day 1, back by day 0", x.back(0, 0, 1, 0, 0), 0);
        x.place(1);
        due("no way", x.back(0, 1, 0, 0, 999), 0);
        x.days(0, 1, 20);
        due("there and back, just in time", x.back(0, 1, 0, 0, 40), 1);
        due("there and back, a day late", x.back(0, 1, 0, 0, 39), 0);
        due("it stays, just in time", x.back(1, 0, 59, 59, 158), 1);
        due("it stays, a day late", x.back(1, 0, 59, 59, 157), 0);
        due("the latest day", x.back(1, 0, 59, 59, 999), 1);
        due("there in time, but not back", x.back(0, 1, 0, 0, 20), 0);
        bad(x, "day -1", () -> x.back(0, 1, -1, 0, 0));
        bad(x, "day 60", () -> x.back(0, 1, 60, 0, 999));
        bad(x, "stay -1", () -> x.back(0, 1, 0, -1, 999));
        bad(x, "stay 60", () -> x.back(0, 1, 0, 60, 999));
        bad(x, "last -1", () -> x.back(0, 1, 0, 0, -1));
        bad(x, "last 1000", () -> x.back(0, 1, 0, 0, 1000));
        bad(x, "from that is not there", () -> x.back(2, 1, 0, 0, 0));
        bad(x, "to that is not there", () -> x.back(0, 2, 0, 0, 0));
        bad(x, "from -1", () -> x.back(-1, 1, 0, 0, 0));
        bad(x, "to -1", () -> x.back(0, -1, 0, 0, 0));
    }

    private static void backThroughStorms() {
        promise = "30 back, STORMS";
        WordOnPost x = withPlaces(3);
        x.days(0, 1, 2);
        // days 0, 1 out; there on day 2; stays 3; days 5, 6 back; home on day 7
        due("no STORM", x.back(0, 1, 0, 3, 7), 1);
        due("a day late", x.back(0, 1, 0, 3, 6), 0);
        x.storm(3, true);
        due("a STORM while it stays is no matter", x.back(0, 1, 0, 3, 7), 1);
        x.storm(7, true);
        due("a STORM on the day it is back is no matter", x.back(0, 1, 0, 3, 7), 1);
        x.storm(5, true);
        due("a STORM as it goes: days 6 and 8", x.back(0, 1, 0, 3, 8), 0);
        due("back on day 9", x.back(0, 1, 0, 3, 9), 1);
        x.storm(1, true);
        due("a STORM on the way out: there on day 3, stays to 6, days 6 and 8", x.back(0, 1, 0, 3, 9), 1);
        due("that is no sooner", x.back(0, 1, 0, 3, 8), 0);
        // back by another way than out, if that is sooner: from day 60 on the short one is as good
        for (int day = 10; day < 60; day++) {
            x.storm(day, true);
        }
        due("from day 60 on there are none", x.back(0, 1, 10, 0, 64), 1);
        due("from day 60 on there are none, a day late", x.back(0, 1, 10, 0, 63), 0);
        due("the latest of all: day 59, two days, 59 more, two days", x.back(0, 1, 59, 59, 123), 1);
        due("the latest of all, a day late", x.back(0, 1, 59, 59, 122), 0);
        // one day of grace in the storms: there by it, and back behind them all
        x.storm(30, false);
        x.days(0, 2, 1);
        due("there on day 31, back on day 61", x.back(0, 2, 10, 0, 61), 1);
        due("a day late", x.back(0, 2, 10, 0, 60), 0);
    }
}
