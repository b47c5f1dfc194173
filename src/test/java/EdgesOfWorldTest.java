import java.math.BigInteger;
import java.util.function.Consumer;

/**
 * Promises 1 to 13: each sentence of the document that names a boundary case. A comment ahead of
 * the checks says the sentence in the document's words; a label says what was done.
 */
public final class EdgesOfWorldTest extends Due {
    public static void main(String[] args) {
        newObject();
        newObjectHasNoPost();
        newObjectHasNoWaysNoStorms();
        place();
        rain();
        lot();
        put();
        kind();
        prior();
        typeTakesTheLowestBytes();
        typeToTheEnd();
        clear();
        faultOfNoItems();
        faultOfSigns();
        faultOfNumbers();
        faultOfMonths();
        faultOfPlaces();
        faultBehindJoinOrDie();
        faultOfSecondOnes();
        faultOfWhatCanNotStandThere();
        faultOfEarlyEnds();
        faultOfBlanks();
        faultOfLongestTexts();
        sign();
        signChanceOfNothing();
        signChanceOfMost();
        signChanceOfMoreThanLeft();
        signChanceCarried();
        post();
        postChance();
        teller();
        tellersHeard();
        tellersWorth();
        end("edges of a world");
    }

    private static void newObject() {
        promise = "1 a new object";
        WordOnPost x = new WordOnPost();
        // no PLACES, no LOTS: what names one is BAD, what asks of worlds is NO
        bad(x, "sign(0, 0, 0, 1)", () -> x.sign(0, 0, 0, 1));
        bad(x, "post(0, false)", () -> x.post(0, false));
        bad(x, "teller(0, 0, 0, 6, 5)", () -> x.teller(0, 0, 0, 6, 5));
        bad(x, "must(0, 0, 0)", () -> x.must(0, 0, 0));
        bad(x, "odds(0, 0)", () -> x.odds(0, 0));
        bad(x, "where(0, 0, 6)", () -> x.where(0, 0, 6));
        bad(x, "so(0)", () -> x.so(0));
        bad(x, "lost(0)", () -> x.lost(0));
        bad(x, "fed(0, 0)", () -> x.fed(0, 0));
        bad(x, "dry(0, 0, 0)", () -> x.dry(0, 0, 0), WORSE);
        bad(x, "days(0, 1, 0)", () -> x.days(0, 1, 0));
        bad(x, "sails(0, 0, 0)", () -> x.sails(0, 0, 0), WORSE);
        bad(x, "back(0, 0, 0, 0, 0)", () -> x.back(0, 0, 0, 0, 0));
        no(x, "at(0, 0)", () -> x.at(0, 0));
        no(x, "hunger(0)", () -> x.hunger(0));
        no(x, "all(0)", () -> x.all(0));
        no(x, "next()", () -> x.next());
        no(x, "from(0)", () -> x.from(0));
        no(x, "from(1)", () -> x.from(1));
        // EACH is 100 at first
        due("many(3, 1, 1, 0)", x.many(3, 1, 1, 0), 100);
        // THE FRACTION is 0 by 1 at first
        fraction(x, "at first", 0, 1);
        due("FAULT of an empty TEXT", x.fault(0) + x.fault(1) + x.fault(2) + x.fault(3), 4 * NONE);
    }

    private static void newObjectHasNoPost() {
        promise = "1 a new object, no POST";
        // at first there is no POST: a word or a cross of LOT 0's STORY weighs nothing
        WordOnPost x = withPlaces(1);
        x.lot(1);
        texts(x, "", "word 0;", "cross;", "word 0;cross;");
        for (int story = 0; story < 4; story++) {
            x.odds(0, story);
            fraction(x, "odds(0, " + story + ")", 1, 4);
        }
    }

    private static void newObjectHasNoWaysNoStorms() {
        promise = "1 a new object, DAYS, STORMS";
        WordOnPost x = withPlaces(6);
        // DAYS: 0 at first
        for (int a = 0; a < 6; a++) {
            for (int b = 0; b < a; b++) {
                due("days(" + a + ", " + b + ", 0)", x.days(a, b, 0), 0);
            }
        }
        due("no way", x.sails(0, 5, 0), NONE);
        WordOnPost y = new WordOnPost();
        for (int day = 0; day < 60; day++) {
            due("storm(" + day + ", false)", y.storm(day, false), NO);
        }
    }

    private static void place() {
        promise = "2 place";
        WordOnPost x = new WordOnPost();
        // FEED so many (0 .. 200)
        bad(x, "one less than 0", () -> x.place(-1));
        bad(x, "one more than 200", () -> x.place(201));
        due("0, and no number was used up", x.place(0), 0);
        due("200", x.place(200), 1);
        due("it feeds none", x.fed(0, 0), 0);
        due("it feeds 200", x.fed(1, 0), 200);
        due("PLACE 2", x.place(1), 2);
        due("PLACE 3", x.place(2), 3);
        due("PLACE 4", x.place(3), 4);
        x.image(0);
        due("PLACE 5, the last", x.place(4), 5);
        // FULL: 6; the first of BAD, NO, FULL
        full(x, "a seventh", () -> x.place(5));
        full(x, "a seventh that feeds 0", () -> x.place(0));
        bad(x, "a seventh that is BAD", () -> x.place(-1));
        due("six", x.count(0), 6);
        due("the last one feeds what it did", x.fed(5, 0), 4);
        x.from(0);
        due("five again", x.count(0), 5);
        due("there is room again", x.place(9), 5);
        full(x, "and then none", () -> x.place(9));
    }

    private static void rain() {
        promise = "3 rain";
        WordOnPost x = new WordOnPost();
        x.place(200);
        x.place(1);
        // RAIN of a YEAR (0 .. 9; 5 at first), YEARS 0 .. 9
        due("YEAR 0, no rain", x.rain(0, 0), 5);
        due("YEAR 9, most rain", x.rain(9, 9), 5);
        due("no rain feeds none", x.fed(0, 0), 0);
        due("200 times 9 by 5", x.fed(0, 9), 360);
        due("the year behind is as it was", x.fed(0, 1), 200);
        due("the year ahead is as it was", x.fed(0, 8), 200);
        bad(x, "YEAR -1", () -> x.rain(-1, 5));
        bad(x, "YEAR 10", () -> x.rain(10, 5));
        bad(x, "RAIN -1", () -> x.rain(0, -1));
        bad(x, "RAIN 10", () -> x.rain(9, 10));
        due("what it was", x.rain(0, 9), 0);
        due("what it was", x.rain(9, 0), 9);
        due("the same again", x.rain(9, 0), 0);
        // without PLACES, too
        due("no PLACES", new WordOnPost().rain(4, 4), 5);
    }

    private static void lot() {
        promise = "4 lot";
        WordOnPost x = new WordOnPost();
        x.place(0);
        // PEOPLE (1 .. 60)
        bad(x, "0 PEOPLE", () -> x.lot(0));
        bad(x, "61 PEOPLE", () -> x.lot(61));
        bad(x, "-1 PEOPLE", () -> x.lot(-1));
        due("1, and no number was used up", x.lot(1), 0);
        due("60", x.lot(60), 1);
        due("LOT 2", x.lot(2), 2);
        x.image(1);
        due("LOT 3, the last", x.lot(3), 3);
        // FULL: 4
        full(x, "a fifth", () -> x.lot(4));
        bad(x, "a fifth of 0", () -> x.lot(0));
        bad(x, "a fifth of 61", () -> x.lot(61));
        due("four", x.count(1), 4);
        due("LOT 3 can be asked for", x.lost(3), 0);
        bad(x, "LOT 4 can not", () -> x.lost(4));
        x.from(1);
        due("three again", x.count(1), 3);
        due("there is room again", x.lot(9), 3);
        full(x, "and then none", () -> x.lot(9));
    }

    private static void put() {
        promise = "5 put";
        WordOnPost x = new WordOnPost();
        // HARD of 9 (0 .. 9; 6 at first); TRUE of 10 (1 .. 9; 9 at first)
        due("HARD 0", x.put(0, 0), 6);
        due("TRUE 1", x.put(1, 1), 9);
        due("HARD 9", x.put(0, 9), 0);
        due("TRUE 9", x.put(1, 9), 1);
        bad(x, "HARD -1", () -> x.put(0, -1));
        bad(x, "HARD 10", () -> x.put(0, 10));
        bad(x, "TRUE 0, which HARD may be", () -> x.put(1, 0));
        bad(x, "TRUE 10", () -> x.put(1, 10));
        bad(x, "what -1", () -> x.put(-1, 5));
        bad(x, "what 2", () -> x.put(2, 5));
        due("HARD is what it was", x.put(0, 3), 9);
        due("TRUE is what it was", x.put(1, 3), 9);
    }

    private static void kind() {
        promise = "6 kind";
        WordOnPost x = new WordOnPost();
        // EACH (1 .. 999; 100 at first), CARRIED (0 .. 9; 0 at first) of a KIND 0 .. 3
        for (int kind = 0; kind < 4; kind++) {
            due("EACH at first", x.kind(kind, 0, kind == 0 ? 1 : 999), 100);
            due("CARRIED at first", x.kind(kind, 1, kind == 0 ? 9 : 0), 0);
        }
        bad(x, "EACH 0, which CARRIED may be", () -> x.kind(0, 0, 0));
        bad(x, "EACH 1000", () -> x.kind(0, 0, 1000));
        bad(x, "CARRIED -1", () -> x.kind(0, 1, -1));
        bad(x, "CARRIED 10, which EACH may be", () -> x.kind(0, 1, 10));
        due("EACH 10", x.kind(0, 0, 10), 1);
        bad(x, "KIND -1", () -> x.kind(-1, 0, 5));
        bad(x, "KIND 4", () -> x.kind(4, 0, 5));
        bad(x, "what -1", () -> x.kind(0, -1, 5));
        bad(x, "what 2", () -> x.kind(0, 2, 5));
        due("CARRIED of KIND 0", x.kind(0, 1, 0), 9);
        due("EACH of KIND 3", x.kind(3, 0, 1), 999);
        due("CARRIED of KIND 3", x.kind(3, 1, 9), 0);
    }

    private static void prior() {
        promise = "7 prior";
        WordOnPost x = withPlaces(1);
        x.lot(1);
        texts(x, "", "", "?", "?");
        // PRIOR (1 .. 9; 1 at first) of STORIES 0 .. 3
        x.odds(0, 0);
        fraction(x, "1 and 1", 1, 2);
        due("STORY 0", x.prior(0, 9), 1);
        x.odds(0, 0);
        fraction(x, "9 and 1", 9, 10);
        bad(x, "PRIOR 0", () -> x.prior(0, 0));
        bad(x, "PRIOR 10", () -> x.prior(0, 10));
        bad(x, "PRIOR -1", () -> x.prior(0, -1));
        bad(x, "STORY -1", () -> x.prior(-1, 5));
        bad(x, "STORY 4", () -> x.prior(4, 5));
        due("STORY 3, which has a FAULT", x.prior(3, 9), 1);
        x.odds(0, 0);
        fraction(x, "a STORY with a FAULT does not count", 9, 10);
        due("what it was", x.prior(0, 1), 9);
        due("what it was", x.prior(3, 1), 9);
    }

    private static void typeTakesTheLowestBytes() {
        promise = "8 type";
        // the lowest n (1 .. 8) bytes of v, the highest of them first
        long[] tried = {0x6162636465666768L, -1L, Long.MIN_VALUE, Long.MAX_VALUE, 0L, 0x80ff7f0001fe8100L};
        for (long v : tried) {
            for (int n = 1; n <= 8; n++) {
                WordOnPost x = new WordOnPost();
                WordOnPost one = new WordOnPost();
                due("type of " + n, x.type(2, v, n), n);
                for (int i = n - 1; i >= 0; i--) {
                    due("one by one", one.type(2, v >>> 8 * i & 255, 1), n - i);
                }
                due("n " + n + " of " + v, x.digest(), one.digest());
                due("other STORIES are empty", x.count(4) + x.count(5) + x.count(7), 0);
            }
        }
        WordOnPost x = new WordOnPost();
        bad(x, "n 0", () -> x.type(0, 0, 0));
        bad(x, "n 9", () -> x.type(0, 0, 9));
        bad(x, "n -1", () -> x.type(0, 0, -1));
        bad(x, "STORY -1", () -> x.type(-1, 0, 1));
        bad(x, "STORY 4", () -> x.type(4, 0, 1));
    }

    private static void typeToTheEnd() {
        promise = "8 type, FULL";
        // a TEXT (120 bytes at most)
        for (int length = 112; length <= 120; length++) {
            for (int n = 1; n <= 8; n++) {
                WordOnPost x = new WordOnPost();
                int bytes = n;
                text(x, 3, "x".repeat(length));
                String call = n + " bytes to " + length;
                if (length + n > 120) {
                    full(x, call, () -> x.type(3, 0x6162636465666768L, bytes));
                } else {
                    due(call, x.type(3, 0x6162636465666768L, n), length + n);
                }
                bad(x, "n 9 is BAD, full or not", () -> x.type(3, 0, 9));
                bad(x, "n 0 is BAD, full or not", () -> x.type(3, 0, 0));
            }
        }
        WordOnPost x = new WordOnPost();
        text(x, 0, "x".repeat(120));
        due("another STORY has room", x.type(1, 0, 8), 8);
        due("all are gone", x.clear(0), 120);
        due("there is room again", x.type(0, 0, 8), 8);
    }

    private static void clear() {
        promise = "9 clear";
        WordOnPost x = withPlaces(2);
        long empty = x.digest();
        // it is empty: how many it had
        due("an empty one", x.clear(0), 0);
        text(x, 0, "?");
        text(x, 3, "go 5 1;");
        due("one of one", x.clear(0), 1);
        due("the other one stays", x.count(7), 7);
        due("and tells what it did", x.at(3, 5), 1);
        due("the other one", x.clear(3), 7);
        due("nothing is left of them", x.digest(), empty);
        due("nor told", x.at(3, 5), 0);
        x.prior(1, 8);
        x.clear(1);
        due("PRIOR stays", x.prior(1, 1), 8);
        bad(x, "STORY -1", () -> x.clear(-1));
        bad(x, "STORY 4", () -> x.clear(4));
    }

    private static void faultOfNoItems() {
        promise = "10 fault, no ITEMS";
        WordOnPost x = new WordOnPost();
        // an empty one, one of blanks alone: none
        faultOf(x, "", NONE);
        faultOf(x, " ", NONE);
        faultOf(x, " ".repeat(119), NONE);
        faultOf(x, " ".repeat(120), NONE);
        // a blank is byte 32 alone
        for (int sign = 0; sign < 256; sign++) {
            WordOnPost other = new WordOnPost();
            text(other, 1, " " + (char) sign);
            due("FAULT of a blank and byte " + sign, other.fault(1), sign == ' ' ? NONE : 1);
        }
        WordOnPost y = withPlaces(1);
        bad(y, "STORY -1", () -> y.fault(-1));
        bad(y, "STORY 4", () -> y.fault(4));
    }

    private static void faultOfSigns() {
        promise = "10 fault, signs";
        // words of letters a .. z, figures, ; and blanks: any other byte begins no TOKEN
        for (int sign = 0; sign < 256; sign++) {
            WordOnPost x = withPlaces(2);
            String one = "" + (char) sign;
            boolean letter = sign >= 'a' && sign <= 'z';
            boolean figure = sign >= '0' && sign <= '9';
            // ahead of an ITEM: a blank is nothing, a letter makes the word another one
            faultOf(x, one + "cross;", sign == ' ' ? NONE : 0);
            // behind a word: a letter makes it another one
            faultOf(x, "cross" + one + ";", sign == ' ' ? NONE : letter ? 0 : sign == ';' ? 6 : 5);
            // behind a number: figures make it greater (12 .. 19 are no PLACE)
            faultOf(x, "word 1" + one + ";", sign == ' ' ? NONE : figure ? 5 : sign == ';' ? 7 : 6);
            // between a word and its number: blanks and naughts may stand there; 11 .. 91 are no PLACE
            int between = sign == ' ' || sign == '0' ? NONE : letter ? 0 : 4;
            faultOf(x, "word" + one + "1;", between);
            // behind an ITEM
            faultOf(x, "cross;" + one, sign == ' ' ? NONE : 6);
        }
    }

    private static void faultOfNumbers() {
        promise = "10 fault, numbers";
        WordOnPost x = withPlaces(1);
        // 1 to 3 are one number
        faultOf(x, "die 1;", NONE);
        faultOf(x, "die 01;", NONE);
        faultOf(x, "die 001;", NONE);
        faultOf(x, "die 000;", NONE);
        faultOf(x, "word 000;", NONE);
        // a run of four figures or more, at its first one
        faultOf(x, "die 0001;", 4);
        faultOf(x, "die 0000;", 4);
        faultOf(x, "die 00001;", 4);
        faultOf(x, "die1111;", 3);
        faultOf(x, "go 5 0000;", 5);
        faultOf(x, "word 0000;", 5);
        faultOf(x, "1234;", 0);
        faultOf(x, "die " + "0".repeat(115) + ";", 4);
        faultOf(x, "die 4294967297;", 4);
        faultOf(x, "die 18446744073709551617;", 4);
    }

    private static void faultOfMonths() {
        promise = "10 fault, MONTHS";
        WordOnPost x = withPlaces(2);
        for (String word : new String[] {"go", "join", "die"}) {
            String rest = word.equals("go") ? " 1;" : ";";
            int at = word.length() + 1;
            // a MONTH above 119
            faultOf(x, word + " 0" + rest, NONE);
            faultOf(x, word + " 119" + rest, NONE);
            faultOf(x, word + " 120" + rest, at);
            faultOf(x, word + " 999" + rest, at);
            // or less than the one ahead
            faultOf(x, "go 50 0;" + word + " 50" + rest, NONE);
            faultOf(x, "go 50 0;" + word + " 49" + rest, 8 + at);
            faultOf(x, "go 119 0;" + word + " 119" + rest, NONE);
            faultOf(x, "go 119 0;" + word + " 120" + rest, 9 + at);
            faultOf(x, "go 1 0;" + word + " 0" + rest, 7 + at);
            faultOf(x, "go 0 0;" + word + " 0" + rest, NONE);
            // words and crosses between them change nothing
            faultOf(x, "go 50 0;word 1;cross;" + word + " 49" + rest, 21 + at);
            faultOf(x, "go 50 0;word 1;cross;" + word + " 50" + rest, NONE);
        }
        // of three the one ahead alone counts, which is the greatest yet
        faultOf(x, "go 10 1;go 50 0;go 20 1;", 19);
    }

    private static void faultOfPlaces() {
        promise = "10 fault, PLACES";
        // a PLACE that is not there
        for (int places = 0; places <= 6; places++) {
            WordOnPost x = withPlaces(places);
            for (int place = 0; place <= 7; place++) {
                faultOf(x, "word " + place + ";", place < places ? NONE : 5);
                faultOf(x, "go 3 " + place + ";", place < places ? NONE : 5);
            }
            faultOf(x, "go 3 999;", 5);
            faultOf(x, "join 3;word 00" + places + ";", 12);
        }
        // it is there as soon as it comes, and gone with an IMAGE that has it not
        WordOnPost x = withPlaces(1);
        text(x, 0, "word 1;");
        x.image(0);
        due("not there", x.fault(0), 5);
        x.place(0);
        due("there", x.fault(0), NONE);
        x.from(0);
        due("gone", x.fault(0), 5);
    }

    private static void faultBehindJoinOrDie() {
        promise = "10 fault, behind a join or die";
        WordOnPost x = withPlaces(2);
        // a go, join or die behind a join or die, at the word
        for (String end : new String[] {"join 5;", "die 5; "}) {
            int at = end.length();
            faultOf(x, end + "go 6 1;", at);
            faultOf(x, end + "join 6;", at);
            faultOf(x, end + "die 6;", at);
            faultOf(x, end + "word 1;cross;", NONE);
            faultOf(x, end + "cross; go 5 1;", at + 7);
            faultOf(x, end + "word 1; die 5;", at + 8);
            // at the word, though its MONTH would be one, too
            faultOf(x, end + "go 4 7;", at);
            faultOf(x, end + "go", at);
        }
    }

    private static void faultOfSecondOnes() {
        promise = "10 fault, a second word or cross";
        WordOnPost x = withPlaces(2);
        // a second word or cross, at the word, too
        faultOf(x, "word 0;word 0;", 7);
        faultOf(x, "word 0;word 1;", 7);
        faultOf(x, "word 0;cross; word 7;", 14);
        faultOf(x, "cross;cross;", 6);
        faultOf(x, "cross;word 0;  cross;", 15);
        faultOf(x, "cross;go 5 1;cross", 13);
        faultOf(x, "word 1;cross;", NONE);
        faultOf(x, "cross;word 1;", NONE);
        faultOf(x, "word 0;word", 7);
    }

    private static void faultOfWhatCanNotStandThere() {
        promise = "10 fault, what can not stand there";
        WordOnPost x = withPlaces(2);
        // a word that is none
        for (String word : new String[] {"g", "goo", "gojoin", "joi", "joins", "di", "died", "wor", "words", "cros",
            "crosss", "crosses", "a", "z", "og", "xgo", "abcdefghgo", "aaaaaaaacross", "zzzzzzzzzzzzzzzzdie"}) {
            faultOf(x, word + " 5 1;", 0);
            faultOf(x, "cross; " + word + ";", 7);
        }
        for (String word : new String[] {"Go", "GO", "gO", "Cross"}) {
            faultOf(x, word + " 5 1;", 0);
        }
        faultOf(x, "crosS;", 0);
        // what begins no ITEM
        faultOf(x, ";", 0);
        faultOf(x, "  ;", 2);
        faultOf(x, "0;", 0);
        faultOf(x, "cross;;", 6);
        faultOf(x, "cross; 5;", 7);
        // what does not go on
        faultOf(x, "go;", 2);
        faultOf(x, "go 5;", 4);
        faultOf(x, "go 5 ;", 5);
        faultOf(x, "go go 5 1;", 3);
        faultOf(x, "go 5 go;", 5);
        faultOf(x, "go 5 1 go;", 7);
        faultOf(x, "go 5 1 1;", 7);
        faultOf(x, "join;", 4);
        faultOf(x, "join 5 1;", 7);
        faultOf(x, "join join;", 5);
        faultOf(x, "die;", 3);
        faultOf(x, "die 5 5;", 6);
        faultOf(x, "word;", 4);
        faultOf(x, "word word;", 5);
        faultOf(x, "word 1 1;", 7);
        faultOf(x, "cross 1;", 6);
        faultOf(x, "cross cross;", 6);
        // the first one counts, whatever comes behind
        faultOf(x, "go 120 9;?", 3);
        faultOf(x, "go 5 9;?", 5);
        faultOf(x, "cross?;cross;", 5);
    }

    private static void faultOfEarlyEnds() {
        promise = "10 fault, ends too early";
        // the TEXT's length, if it ends too early
        String text = " go 1 1 ; join 13 ; word 1 ; cross ; ";
        String whole = " go join word cross ";
        for (int length = 0; length <= text.length(); length++) {
            WordOnPost x = withPlaces(2);
            String cut = text.substring(0, length);
            String last = cut.substring(Math.max(cut.lastIndexOf(' '), cut.lastIndexOf(';')) + 1);
            boolean isOver = cut.isBlank() || cut.trim().endsWith(";");
            boolean broken = !last.isEmpty() && last.charAt(0) >= 'a' && !whole.contains(" " + last + " ");
            faultOf(x, cut, isOver ? NONE : broken ? length - last.length() : length);
        }
        WordOnPost x = withPlaces(2);
        faultOf(x, "go" + " ".repeat(118), 120);
        faultOf(x, "go 5 1" + " ".repeat(114), 120);
        faultOf(x, " ".repeat(115) + "cross", 120);
    }

    private static void faultOfBlanks() {
        promise = "10 fault, blanks";
        WordOnPost x = withPlaces(2);
        // any number, ahead of, between and behind TOKENS
        faultOf(x, "go5 1;join6;word1;cross;", NONE);
        faultOf(x, "   go   5   1   ;   join   6   ;   ", NONE);
        // needed only between two words, two numbers
        faultOf(x, "go51;", 4);
        faultOf(x, "go5 1join6;", 5);
        faultOf(x, "die5;cross;", NONE);
        due("it is read", x.at(0, 5), 7);
        faultOf(x, "go 1 1 9;", 7);
        faultOf(x, "go119 1;", NONE);
        faultOf(x, "go1191;", 2);
        faultOf(x, "g o 5 1;", 0);
        faultOf(x, "die 1 1 9;", 6);
    }

    private static void faultOfLongestTexts() {
        promise = "10 fault, 120 bytes";
        WordOnPost x = withPlaces(1);
        // the most ITEMS that a TEXT can hold: "go0 0;" twenty times
        faultOf(x, "go0 0;".repeat(20), NONE);
        faultOf(x, "go0 0;".repeat(19) + "cross;", NONE);
        faultOf(x, "go0 0;".repeat(19) + "cross ", 120);
        faultOf(x, "go0 0;".repeat(19) + "go0 1;", 118);
        faultOf(x, " ".repeat(119) + ";", 119);
        faultOf(x, " ".repeat(114) + "cross;", NONE);
        faultOf(x, "a".repeat(120), 0);
        faultOf(x, "0".repeat(120), 0);
        faultOf(x, ";".repeat(120), 0);
        faultOf(x, "\u00ff".repeat(120), 0);
        faultOf(x, "a0".repeat(60), 0);
        faultOf(x, "cross;" + "0 ".repeat(57), 6);
    }

    private static void sign() {
        promise = "11 sign";
        WordOnPost x = withPlaces(2);
        // FOUND c (0 .. 9), DUG d of 10 (1 .. 10)
        due("the least", x.sign(0, 0, 0, 1), 0);
        due("the most", x.sign(1, 3, 9, 10), 1);
        bad(x, "FOUND -1", () -> x.sign(0, 1, -1, 1));
        bad(x, "FOUND 10", () -> x.sign(0, 1, 10, 1));
        bad(x, "DUG 0", () -> x.sign(0, 1, 0, 0));
        bad(x, "DUG 11", () -> x.sign(0, 1, 0, 11));
        bad(x, "a PLACE that is not there", () -> x.sign(2, 1, 0, 1));
        bad(x, "PLACE -1", () -> x.sign(-1, 1, 0, 1));
        bad(x, "KIND -1", () -> x.sign(0, -1, 0, 1));
        bad(x, "KIND 4", () -> x.sign(0, 4, 0, 1));
        // BAD: there is one of that KIND at that PLACE, too
        bad(x, "just as it is", () -> x.sign(0, 0, 0, 1));
        bad(x, "other numbers", () -> x.sign(0, 0, 5, 5));
        bad(x, "the second one", () -> x.sign(1, 3, 0, 1));
        due("that KIND elsewhere", x.sign(1, 0, 0, 1), 2);
        due("another KIND there", x.sign(0, 3, 0, 1), 3);
        due("a fifth", x.sign(0, 1, 0, 1), 4);
        x.image(0);
        due("a sixth", x.sign(0, 2, 0, 1), 5);
        // FULL: 6
        full(x, "a seventh", () -> x.sign(1, 1, 0, 1));
        bad(x, "a seventh that is there", () -> x.sign(0, 2, 0, 1));
        bad(x, "a seventh that is BAD", () -> x.sign(1, 1, 10, 1));
        due("six", x.count(2), 6);
        x.from(0);
        due("what came behind the IMAGE is gone", x.sign(0, 2, 3, 4), 5);
        full(x, "and then none", () -> x.sign(1, 1, 0, 1));
    }

    /** One of LOT 0 stays at PLACE 0 (120 months by EACH) or goes at once: the sign alone weighs. */
    private static void stayOrGo(String call, int[] numbers, Consumer<WordOnPost> then) {
        WordOnPost x = withPlaces(2);
        x.lot(1);
        texts(x, "", "go 0 1;", "?", "?");
        x.kind(2, 0, numbers[0]);
        x.kind(2, 1, numbers[1]);
        due(call + ", the sign", x.sign(0, 2, numbers[2], numbers[3]), 0);
        then.accept(x);
    }

    private static void shareOfStay(String call, int[] eachCarriedFoundDug, BigInteger stay, BigInteger go) {
        stayOrGo(call, eachCarriedFoundDug, x -> {
            due(call, x.odds(0, 0), 1);
            fraction(x, call, stay, stay.add(go));
        });
    }

    private static int[] n(int... numbers) {
        return numbers;
    }

    private static void signChanceOfNothing() {
        promise = "11 sign, none left or found";
        BigInteger one = BigInteger.ONE;
        // 0 to the 0 is 1: none left, none found, nothing carried, all dug
        shareOfStay("119 of 120 are not one", n(121, 0, 0, 10), one, one);
        shareOfStay("120 of 120 are one, and it would have been found", n(120, 0, 0, 10), BigInteger.ZERO, one);
        shareOfStay("one left, 1 of 10 dug", n(120, 0, 0, 1), BigInteger.valueOf(9), BigInteger.TEN);
        // nothing left and nothing carried: none of some found
        stayOrGo("one found of none", n(121, 0, 1, 1), x -> no(x, "odds(0, 0)", () -> x.odds(0, 0)));
        stayOrGo("nine found of one", n(120, 0, 9, 1), x -> no(x, "odds(0, 0)", () -> x.odds(0, 0)));
        stayOrGo("one found of one", n(120, 0, 1, 1), x -> {
            x.odds(0, 0);
            fraction(x, "one found of one", 1, 1);
        });
    }

    private static void signChanceOfMost() {
        promise = "11 sign, 20 left at most";
        // LEFT: 20 at most
        BigInteger nine = power(9, 20);
        BigInteger ten = power(10, 20);
        shareOfStay("just 20", n(6, 0, 0, 1), nine, ten);
        shareOfStay("24 are 20", n(5, 0, 0, 1), nine, ten);
        shareOfStay("120 are 20", n(1, 0, 0, 1), nine, ten);
        shareOfStay("17", n(7, 0, 0, 1), power(9, 17), power(10, 17));
        // nine of twenty, 5 of 10 dug: 167960 of 2 to the 20; nothing carried
        stayOrGo("nine of twenty", n(6, 0, 9, 5), x -> {
            x.odds(0, 0);
            fraction(x, "nine of twenty", 1, 1);
        });
        // all twenty were dug up: not nine of them
        stayOrGo("nine of twenty, all dug", n(6, 0, 9, 10), x -> no(x, "odds(0, 0)", () -> x.odds(0, 0)));
    }

    private static void signChanceOfMoreThanLeft() {
        promise = "11 sign, j from 0 to c (n at most)";
        // one left, all dug, nine found: one was left, eight carried: 9^8 * 1 by 10^9; none left: 9^9 by 10^10
        shareOfStay("nine of one, all dug", n(120, 9, 9, 10), BigInteger.TEN, BigInteger.valueOf(9));
        // two left, all dug, two found: none carried: 1 - a of 10; none left: a^2 (10 - a) by 10^3
        shareOfStay("two of two, all dug", n(60, 1, 2, 10), BigInteger.valueOf(100), BigInteger.ONE);
        // two left, all dug, one found: can not be
        shareOfStay("one of two, all dug", n(60, 1, 1, 10), BigInteger.ZERO, BigInteger.ONE);
        // three found of two, half dug, half carried: (1/4)(1/16) + (2/4)(1/8) + (1/4)(1/4) against 1/16
        shareOfStay("three of two", n(60, 5, 3, 5), BigInteger.valueOf(9), BigInteger.valueOf(4));
        // two found of two: (1/4)(1/8) + (2/4)(1/4) + (1/4)(1/2) against 1/8
        shareOfStay("two of two", n(60, 5, 2, 5), BigInteger.valueOf(9), BigInteger.valueOf(4));
        // none found of two: (1/4)(1/2) against 1/2
        shareOfStay("none of two", n(60, 5, 0, 5), BigInteger.ONE, BigInteger.valueOf(4));
    }

    private static void signChanceCarried() {
        promise = "11 sign, CARRIED";
        // CARRIED 0 .. 9: with 9 of 10, one found, one left, 1 of 10 dug: (9/10)(9/100) + (1/10)(1/10) against 9/100
        shareOfStay("9 of 10", n(120, 9, 1, 1), BigInteger.valueOf(91), BigInteger.valueOf(90));
        // it is the CARRIED of the sign's KIND, as it is now
        stayOrGo("changed", n(120, 0, 1, 1), x -> {
            x.odds(0, 1);
            fraction(x, "nothing carried", 0, 1);
            x.kind(1, 1, 9);
            x.odds(0, 1);
            fraction(x, "of another KIND", 0, 1);
            x.kind(2, 1, 9);
            x.odds(0, 1);
            fraction(x, "of that KIND", 90, 181);
        });
    }

    private static void post() {
        promise = "12 post";
        WordOnPost x = new WordOnPost();
        // a word (a PLACE; NONE: none)
        due("none needs no PLACE", x.post(NONE, false), 1);
        bad(x, "PLACE 0 is not there", () -> x.post(0, true));
        x.place(1);
        due("PLACE 0", x.post(0, true), 1);
        bad(x, "PLACE 1 is not there", () -> x.post(1, true));
        bad(x, "-2 is not NONE", () -> x.post(-2, true));
        bad(x, "6 is no PLACE", () -> x.post(6, true));
        bad(x, "7 is no PLACE", () -> x.post(7, true));
        for (int i = 1; i < 6; i++) {
            x.place(1);
        }
        due("PLACE 5", x.post(5, false), 1);
        bad(x, "6 is no PLACE", () -> x.post(6, false));
        due("the same again", x.post(5, false), 1);
    }

    private static WordOnPost fourWords(int lots) {
        WordOnPost x = withPlaces(2);
        for (int lot = 0; lot < lots; lot++) {
            x.lot(1);
        }
        texts(x, "", "word 1;", "cross;", "word 1;cross;");
        return x;
    }

    private static void postChance() {
        promise = "12 post, its chance";
        WordOnPost x = fourWords(2);
        // TRUE of 10 (1 .. 9; 9 at first) if LOT 0's STORY has just that word (none, if none was told)
        x.post(NONE, false);
        x.odds(0, 0);
        fraction(x, "none told, none had: 81 of 81, 9, 9, 1", 81, 100);
        x.odds(0, 3);
        fraction(x, "none told, both had", 1, 100);
        x.odds(1, 3);
        fraction(x, "LOT 1's STORY is not asked", 1, 4);
        x.post(1, true);
        x.odds(0, 3);
        fraction(x, "both told, both had", 81, 100);
        x.post(0, true);
        x.odds(0, 3);
        fraction(x, "another word: 1, 1, 9, 9", 9, 20);
        x.odds(0, 0);
        fraction(x, "another word is no better than none", 1, 20);
        x.put(1, 1);
        x.odds(0, 0);
        fraction(x, "TRUE 1: 81, 81, 9, 9 by 180, the word being told by none", 9, 20);
        x.put(1, 5);
        x.odds(0, 0);
        fraction(x, "TRUE 5 tells nothing", 1, 4);
        // without LOTS there is one WORLD, POST or not
        WordOnPost y = fourWords(0);
        y.post(1, true);
        due("all(0)", y.all(0), 1);
        fraction(y, "without LOTS", 1, 1);
    }

    private static void teller() {
        promise = "13 teller";
        WordOnPost x = new WordOnPost();
        bad(x, "no LOT", () -> x.teller(0, 0, 0, 6, 5));
        x.lot(1);
        // where: a PLACE there, 6, 7
        due("JOINED needs no PLACE", x.teller(0, 0, 0, 6, 1), 0);
        due("nor does DEAD", x.teller(5, 0, 119, 7, 9), 1);
        bad(x, "PLACE 0 is not there", () -> x.teller(0, 0, 0, 0, 5));
        x.place(1);
        due("PLACE 0", x.teller(0, 0, 0, 0, 5), 2);
        bad(x, "PLACE 1 is not there", () -> x.teller(0, 0, 0, 1, 5));
        bad(x, "PLACE 5 is not there", () -> x.teller(0, 0, 0, 5, 5));
        bad(x, "where 8", () -> x.teller(0, 0, 0, 8, 5));
        bad(x, "where -1", () -> x.teller(0, 0, 0, -1, 5));
        bad(x, "SOURCE -1", () -> x.teller(-1, 0, 0, 0, 5));
        bad(x, "SOURCE 6", () -> x.teller(6, 0, 0, 0, 5));
        bad(x, "LOT 1 is not there", () -> x.teller(0, 1, 0, 0, 5));
        bad(x, "MONTH 120", () -> x.teller(0, 0, 120, 0, 5));
        bad(x, "MONTH -1", () -> x.teller(0, 0, -1, 0, 5));
        bad(x, "WORTH 0", () -> x.teller(0, 0, 0, 0, 0));
        bad(x, "WORTH 10", () -> x.teller(0, 0, 0, 0, 10));
        due("a fourth", x.teller(0, 0, 0, 0, 5), 3);
        due("a fifth", x.teller(0, 0, 0, 0, 5), 4);
        x.image(0);
        due("a sixth", x.teller(0, 0, 0, 0, 5), 5);
        // FULL: 6
        full(x, "a seventh", () -> x.teller(4, 0, 0, 0, 5));
        bad(x, "a seventh that is BAD", () -> x.teller(4, 0, 0, 0, 10));
        due("six", x.count(3), 6);
        x.from(0);
        due("there is room again", x.teller(4, 0, 0, 7, 5), 5);
    }

    private static void tellersHeard() {
        promise = "13 teller, SOURCE";
        // of those of one SOURCE the first alone is heard
        for (int source = 0; source < 6; source++) {
            WordOnPost x = withPlaces(2);
            x.lot(1);
            x.lot(1);
            texts(x, "", "go 0 1;", "?", "?");
            x.teller(source, 0, 5, 1, 9);
            x.teller(source, 0, 5, 0, 9);
            x.teller(source, 1, 5, 0, 9);
            x.odds(0, 1);
            fraction(x, "the first", 9, 10);
            x.odds(1, 1);
            fraction(x, "not heard of another LOT either", 1, 2);
            x.teller((source + 1) % 6, 1, 5, 0, 9);
            x.odds(1, 1);
            fraction(x, "another SOURCE", 1, 10);
            // with an IMAGE from ahead of the first, the next one is the first
            WordOnPost y = withPlaces(2);
            y.lot(1);
            texts(y, "", "go 0 1;", "?", "?");
            y.image(1);
            y.teller(source, 0, 5, 1, 9);
            y.from(1);
            y.teller(source, 0, 5, 0, 9);
            y.odds(0, 1);
            fraction(y, "the first again", 1, 10);
        }
    }

    private static void tellersWorth() {
        promise = "13 teller, WORTH";
        WordOnPost x = withPlaces(1);
        x.lot(1);
        texts(x, "die 119;", "join 119;", "die 0;", "join 0;");
        x.image(0);
        // WORTH of 10 (1 .. 9): that, if so; 10 less it of 10 if not
        x.teller(0, 0, 118, 7, 9);
        x.odds(0, 2);
        fraction(x, "DEAD in MONTH 118: one of four", 9, 12);
        x.from(0);
        x.teller(0, 0, 119, 7, 9);
        x.odds(0, 0);
        fraction(x, "DEAD in MONTH 119: two of four", 9, 20);
        x.from(0);
        x.teller(0, 0, 0, 6, 1);
        x.odds(0, 3);
        fraction(x, "JOINED in MONTH 0, a teller of little WORTH", 1, 28);
        x.from(0);
        x.teller(0, 0, 0, 0, 9);
        x.odds(0, 0);
        fraction(x, "AT PLACE 0 in MONTH 0: two of four", 9, 20);
    }
}
