import java.util.ArrayList;
import java.util.List;
import java.util.function.IntPredicate;

/**
 * "BAD -2 a number is not as told": every number of every call, through its whole range and far
 * beside it. One beside it is refused as BAD, counts so and changes nothing else; one within it is
 * not refused as BAD.
 */
public final class RangesTest extends Due {
    private interface Made {
        int by(WordOnPost x, int[] v);
    }

    /** A call with numbers that are as told; each of them in turn is put elsewhere. */
    private record Call(String name, int bad, int[] numbers, Made made, IntPredicate[] told) { }

    private static final List<Call> CALLS = new ArrayList<>();

    private static IntPredicate of(int least, int most) {
        return v -> v >= least && v <= most;
    }

    private static final IntPredicate PLACE = of(0, 2), LOT = of(0, 1), STORY = of(0, 3), KIND = of(0, 3);
    private static final IntPredicate MONTH = of(0, 119), YEAR = of(0, 9), DAY = of(0, 59), EITHER = of(0, 1);
    private static final IntPredicate WHERE = PLACE.or(of(6, 7));

    private static void call(String name, int bad, int[] numbers, Made made, IntPredicate... told) {
        CALLS.add(new Call(name, bad, numbers, made, told));
    }

    private static int[] n(int... numbers) {
        return numbers;
    }

    private static void aWorld() {
        call("2 place", BAD, n(50), (x, v) -> x.place(v[0]), of(0, 200));
        call("3 rain", BAD, n(3, 4), (x, v) -> x.rain(v[0], v[1]), YEAR, of(0, 9));
        call("4 lot", BAD, n(50), (x, v) -> x.lot(v[0]), of(1, 60));
        call("5 put, HARD", BAD, n(0, 4), (x, v) -> x.put(v[0], v[1]), EITHER, of(0, 9));
        call("5 put, TRUE", BAD, n(1, 4), (x, v) -> x.put(v[0], v[1]), EITHER, of(1, 9));
        call("6 kind, EACH", BAD, n(1, 0, 4), (x, v) -> x.kind(v[0], v[1], v[2]), KIND, EITHER, of(1, 999));
        call("6 kind, CARRIED", BAD, n(1, 1, 4), (x, v) -> x.kind(v[0], v[1], v[2]), KIND, EITHER, of(0, 9));
        call("7 prior", BAD, n(1, 4), (x, v) -> x.prior(v[0], v[1]), STORY, of(1, 9));
        call("8 type", BAD, n(1, 4), (x, v) -> x.type(v[0], 0x6162636465666768L, v[1]), STORY, of(1, 8));
        call("9 clear", BAD, n(1), (x, v) -> x.clear(v[0]), STORY);
        call("10 fault", BAD, n(1), (x, v) -> x.fault(v[0]), STORY);
        call("11 sign", BAD, n(1, 2, 3, 4), (x, v) -> x.sign(v[0], v[1], v[2], v[3]), PLACE, KIND, of(0, 9), of(1, 10));
        call("12 post", BAD, n(1), (x, v) -> x.post(v[0], true), PLACE.or(v -> v == NONE));
        call("12 post, no cross", BAD, n(1), (x, v) -> x.post(v[0], false), PLACE.or(v -> v == NONE));
        call("13 teller", BAD, n(1, 1, 7, 1, 4), (x, v) -> x.teller(v[0], v[1], v[2], v[3], v[4]),
                of(0, 5), LOT, MONTH, WHERE, of(1, 9));
    }

    private static void storiesAndWorlds() {
        call("14 at", BAD, n(1, 7), (x, v) -> x.at(v[0], v[1]), STORY, MONTH);
        call("15 must", BAD, n(1, 1, 2), (x, v) -> x.must(v[0], v[1], v[2]), STORY, PLACE, KIND);
        call("16 hunger", BAD, n(1), (x, v) -> x.hunger(v[0]), STORY);
        call("17 odds", BAD, n(1, 1), (x, v) -> x.odds(v[0], v[1]), LOT, STORY);
        call("18 all", BAD, n(1), (x, v) -> x.all(v[0]), STORY);
        call("19 where", BAD, n(1, 7, 1), (x, v) -> x.where(v[0], v[1], v[2]), LOT, MONTH, WHERE);
        call("20 so", BAD, n(1), (x, v) -> x.so(v[0]), of(0, 1));
        call("21 lost", BAD, n(1), (x, v) -> x.lost(v[0]), LOT);
    }

    private static void yearsThingsShips() {
        call("23 fed", BAD, n(1, 4), (x, v) -> x.fed(v[0], v[1]), PLACE, YEAR);
        call("24 dry", WORSE, n(1, 50, 1), (x, v) -> x.dry(v[0], v[1], v[2]), PLACE, of(0, 999), EITHER);
        call("25 many", WORSE, n(1, 3, 7, 1), (x, v) -> x.many(v[0], v[1], v[2], v[3]),
                KIND, of(0, 20), of(1, 120), EITHER);
        call("26 stone", BAD, n(5, 4, 0, 4, 6), (x, v) -> x.stone(v[0], v[1], v[2], v[3], v[4]),
                of(0, 10), of(1, 12), of(0, 4), of(1, 9), of(1, 9));
        for (int letters = 1; letters <= 12; letters++) {
            call("26 stone, letters", BAD, n(5, letters, 0, 4, 6), (x, v) -> x.stone(v[0], v[1], v[2], v[3], v[4]),
                    of(0, 10), of(1, 12), of(0, letters), of(1, 9), of(1, 9));
        }
        call("27 days", BAD, n(0, 1, 5), (x, v) -> x.days(v[0], v[1], v[2]),
                PLACE.and(v -> v != 1), PLACE.and(v -> v != 0), of(0, 20));
        call("28 storm", BAD, n(7), (x, v) -> x.storm(v[0], true), DAY);
        call("28 storm, none", BAD, n(7), (x, v) -> x.storm(v[0], false), DAY);
        call("29 sails", WORSE, n(0, 1, 5), (x, v) -> x.sails(v[0], v[1], v[2]), PLACE, PLACE, DAY);
        call("30 back", BAD, n(0, 1, 5, 6, 30), (x, v) -> x.back(v[0], v[1], v[2], v[3], v[4]),
                PLACE, PLACE, DAY, of(0, 59), of(0, 999));
    }

    private static void whatThereIs() {
        call("31 part", BAD, n(1), (x, v) -> x.part(v[0]), of(0, 2));
        call("32 limb", BAD, n(1, 0), (x, v) -> x.limb(v[0], v[1]), EITHER, v -> v >= 0);
        call("33 image", BAD, n(1), (x, v) -> x.image(v[0]), EITHER);
        call("34 from", BAD, n(1), (x, v) -> x.from(v[0]), EITHER);
        call("35 status", NONE, n(1), (x, v) -> x.status(v[0]), of(0, 2));
        call("36 count", BAD, n(1), (x, v) -> x.count(v[0]), of(0, 7));
    }

    /** Three PLACES, two LOTS, stories, a sign, two tellers, a way, an image and a fraction. */
    private static WordOnPost world() {
        WordOnPost x = withPlaces(3);
        x.lot(5);
        x.lot(6);
        texts(x, "go 5 1;", "die 9;", "", "?");
        x.sign(0, 0, 1, 5);
        x.teller(1, 0, 5, 1, 6);
        x.teller(2, 1, 9, 7, 6);
        x.days(0, 1, 4);
        x.stone(5, 1, 0, 9, 1);
        x.image(1);
        return x;
    }

    /** The range and its neighbourhood, and what looks like a number of it when bits are cut off. */
    private static int[] tried() {
        List<Integer> vs = new ArrayList<>(List.of(Integer.MIN_VALUE, Integer.MIN_VALUE + 1, Integer.MAX_VALUE));
        for (int v = -12; v <= 210; v++) {
            vs.add(v);
        }
        for (int v = 990; v <= 1010; v++) {
            vs.add(v);
        }
        for (int bits = 8; bits < 32; bits += 4) {
            for (int v = 0; v <= 3; v++) {
                vs.add((1 << bits) + v);
                vs.add(-(1 << bits) + v);
            }
        }
        return vs.stream().mapToInt(Integer::intValue).toArray();
    }

    private static void tryNumber(Call call, int i, int v) {
        int[] numbers = call.numbers.clone();
        numbers[i] = v;
        String text = "number " + i + " being " + v;
        WordOnPost x = world();
        if (call.told[i].test(v)) {
            call.made.by(x, numbers);
            due(text + ", refused as BAD", x.status(0), 0);
        } else {
            bad(x, text, () -> call.made.by(x, numbers), call.bad);
        }
    }

    public static void main(String[] args) {
        aWorld();
        storiesAndWorlds();
        yearsThingsShips();
        whatThereIs();
        int[] tried = tried();
        for (Call call : CALLS) {
            promise = call.name;
            for (int i = 0; i < call.numbers.length; i++) {
                for (int v : tried) {
                    tryNumber(call, i, v);
                }
            }
        }
        twoNumbersThatAreNotAsTold();
        end("ranges");
    }

    /** However many numbers are wrong, it is one call that was refused. */
    private static void twoNumbersThatAreNotAsTold() {
        for (Call call : CALLS) {
            promise = call.name;
            int[] numbers = new int[call.numbers.length];
            java.util.Arrays.fill(numbers, Integer.MIN_VALUE);
            WordOnPost x = world();
            bad(x, "all numbers wrong", () -> call.made.by(x, numbers), call.bad);
        }
    }
}
