import java.util.Arrays;

/**
 * A word on a post: lots of people left at a place, the stories that may tell what became of them,
 * and what was found, said and carved, weighed over all worlds in which each lot lives a story.
 *
 * <p>All rows are made in the constructor and used again, so that no call makes an object.
 */
public final class WordOnPost {
    public static final int NONE = -1, BAD = -2, NO = -3, FULL = -4;

    private static final int PLACES = 6, LOTS = 4, STORIES = 4, KINDS = 4, SIGNS = 6, TELLERS = 6, SOURCES = 6;
    private static final int YEARS = 10, YEAR = 12, MONTHS = 120, STORM_DAYS = 60, IMAGES = 2;
    private static final int JOINED = 6, DEAD = 7;
    private static final int LONGEST_TEXT = 120, MOST_LEFT = 20, MOST_FOUND = 9, MOST_PEOPLE = 999;
    private static final int HARD = 0, TRUE = 1, EACH = 0, CARRIED = 1, MOST_HARD = 9;
    private static final int WORLD_ROOM = 32, CHANCE_ROOM = 5;

    /** What calls answer as BAD whose NONE and numbers leave no room for -2. */
    private static final int WORSE = -10;

    private final Worlds worlds = new Worlds();
    private final Lives lives = worlds.lives;
    private final State now = lives.now;
    private final State[] images = new State[IMAGES];
    private final boolean[] kept = new boolean[IMAGES];
    private final Fraction fraction = new Fraction();
    private final Ship ship = new Ship();
    private final Big stoneForged = new Big(CHANCE_ROOM);
    private final Big stoneAny = new Big(CHANCE_ROOM);
    private int refusedBad, refusedNo, refusedFull;

    public WordOnPost() {
        for (int i = 0; i < IMAGES; i++) {
            images[i] = new State();
        }
    }

    // ---- a world

    public int place(int feeds) {
        if (outside(feeds, 0, 200)) {
            return bad();
        }
        if (now.places >= PLACES) {
            return full();
        }
        now.feeds[now.places] = feeds;
        changed();
        return now.places++;
    }

    public int rain(int year, int v) {
        if (outside(year, 0, YEARS - 1) || outside(v, 0, 9)) {
            return bad();
        }
        return exchange(now.rains, year, v);
    }

    public int lot(int people) {
        if (outside(people, 1, 60)) {
            return bad();
        }
        if (now.lots >= LOTS) {
            return full();
        }
        now.people[now.lots] = people;
        changed();
        return now.lots++;
    }

    public int put(int what, int v) {
        if (outside(what, HARD, TRUE) || outside(v, what == HARD ? 0 : 1, 9)) {
            return bad();
        }
        return exchange(now.puts, what, v);
    }

    public int kind(int kind, int what, int v) {
        if (noKind(kind) || outside(what, EACH, CARRIED)) {
            return bad();
        }
        if (what == EACH ? outside(v, 1, 999) : outside(v, 0, 9)) {
            return bad();
        }
        return exchange(now.kinds[kind], what, v);
    }

    public int prior(int story, int v) {
        if (noStory(story) || outside(v, 1, 9)) {
            return bad();
        }
        return exchange(now.priors, story, v);
    }

    public int type(int story, long v, int n) {
        if (noStory(story) || outside(n, 1, 8)) {
            return bad();
        }
        int length = now.lengths[story];
        if (length + n > LONGEST_TEXT) {
            return full();
        }
        for (int i = 0; i < n; i++) {
            now.texts[story][length + i] = (int) (v >> (8 * (n - 1 - i))) & 255;
        }
        now.lengths[story] = length + n;
        changed();
        return length + n;
    }

    public int clear(int story) {
        if (noStory(story)) {
            return bad();
        }
        return exchange(now.lengths, story, 0);
    }

    public int fault(int story) {
        if (noStory(story)) {
            return bad();
        }
        lives.refresh();
        return lives.tales[story].fault;
    }

    public int sign(int place, int kind, int found, int dug) {
        if (noPlace(place) || noKind(kind) || outside(found, 0, MOST_FOUND) || outside(dug, 1, 10)) {
            return bad();
        }
        if (now.hasSign(place, kind)) {
            return bad();
        }
        if (now.signs >= SIGNS) {
            return full();
        }
        int[] row = now.signRows[now.signs];
        row[State.SIGN_PLACE] = place;
        row[State.SIGN_KIND] = kind;
        row[State.SIGN_FOUND] = found;
        row[State.SIGN_DUG] = dug;
        changed();
        return now.signs++;
    }

    public int post(int word, boolean cross) {
        if (word != NONE && noPlace(word)) {
            return bad();
        }
        now.post[State.POST_THERE] = 1;
        now.post[State.POST_WORD] = word;
        now.post[State.POST_CROSS] = cross ? 1 : 0;
        changed();
        return 1;
    }

    public int teller(int source, int lot, int month, int where, int worth) {
        if (outside(source, 0, SOURCES - 1) || noLot(lot) || noMonth(month) || noWhere(where)) {
            return bad();
        }
        if (outside(worth, 1, 9)) {
            return bad();
        }
        if (now.tellers >= TELLERS) {
            return full();
        }
        int[] row = now.tellerRows[now.tellers];
        row[State.TELLER_SOURCE] = source;
        row[State.TELLER_LOT] = lot;
        row[State.TELLER_MONTH] = month;
        row[State.TELLER_WHERE] = where;
        row[State.TELLER_WORTH] = worth;
        changed();
        return now.tellers++;
    }

    // ---- stories, worlds

    public int at(int story, int month) {
        if (noStory(story) || noMonth(month)) {
            return bad();
        }
        if (now.places == 0 || hasFault(story)) {
            return no();
        }
        return lives.tales[story].whereabouts[month];
    }

    public int must(int story, int place, int kind) {
        if (noStory(story) || noPlace(place) || noKind(kind)) {
            return bad();
        }
        if (hasFault(story)) {
            return no();
        }
        lives.allLive(story);
        return lives.left(place, kind);
    }

    public int hunger(int story) {
        if (noStory(story)) {
            return bad();
        }
        if (now.places == 0 || hasFault(story)) {
            return no();
        }
        lives.allLive(story);
        return lives.hungerYears();
    }

    public int odds(int lot, int story) {
        if (noLot(lot) || noStory(story)) {
            return bad();
        }
        if (noWorlds()) {
            return no();
        }
        return answerShare(worlds.livedBy(lot, story));
    }

    public int all(int story) {
        if (noStory(story)) {
            return bad();
        }
        if (noWorlds()) {
            return no();
        }
        return answerShare(worlds.alls[story]);
    }

    public int where(int lot, int month, int where) {
        if (noLot(lot) || noMonth(month) || noWhere(where)) {
            return bad();
        }
        if (noWorlds()) {
            return no();
        }
        return answerShare(worlds.gatherWhere(lot, month, where));
    }

    public int so(int teller) {
        if (outside(teller, 0, now.tellers - 1)) {
            return bad();
        }
        if (noWorlds()) {
            return no();
        }
        int[] row = now.tellerRows[teller];
        return answerShare(worlds.gatherWhere(
                row[State.TELLER_LOT], row[State.TELLER_MONTH], row[State.TELLER_WHERE]));
    }

    public int lost(int lot) {
        if (noLot(lot)) {
            return bad();
        }
        if (noWorlds()) {
            return no();
        }
        return worlds.lostOf(lot);
    }

    public int next() {
        if (noWorlds()) {
            return no();
        }
        return worlds.digNext();
    }

    // ---- years, things, ships

    public int fed(int place, int year) {
        if (noPlace(place) || outside(year, 0, YEARS - 1)) {
            return bad();
        }
        return now.feedsIn(place, year);
    }

    public int dry(int place, int n, int what) {
        if (noPlace(place) || outside(n, 0, 999) || outside(what, 0, 1)) {
            return worse();
        }
        int first = NONE;
        int longest = 0;
        int row = 0;
        for (int year = 0; year < YEARS; year++) {
            row = now.feedsIn(place, year) < n ? row + 1 : 0;
            if (row > longest) {
                longest = row;
                first = year - row + 1;
            }
        }
        return what == 0 ? first : longest;
    }

    public int many(int kind, int c, int months, int what) {
        if (noKind(kind) || outside(c, 0, MOST_LEFT) || outside(months, 1, MONTHS) || outside(what, 0, 1)) {
            return worse();
        }
        int each = now.kinds[kind][EACH];
        int few = (c * each + months - 1) / months;
        int most = Math.min(((c + 1) * each - 1) / months, MOST_PEOPLE);
        if (few > most) {
            return NONE;
        }
        return what == 0 ? few : most;
    }

    public int stone(int p, int n, int k, int t, int f) {
        if (outside(p, 0, 10) || outside(n, 1, 12) || outside(k, 0, n)) {
            return bad();
        }
        if (outside(t, 1, 9) || outside(f, 1, 9)) {
            return bad();
        }
        long forged = p * rightLetters(n, k, f);
        long real = (10 - p) * rightLetters(n, k, t);
        stoneForged.become(forged);
        stoneAny.become(forged + real);
        fraction.become(stoneForged, stoneAny);
        return 1;
    }

    public int days(int a, int b, int n) {
        if (noPlace(a) || noPlace(b) || a == b || outside(n, 0, 20)) {
            return bad();
        }
        now.ways[b][a] = n;
        return exchange(now.ways[a], b, n);
    }

    public int storm(int day, boolean is) {
        if (outside(day, 0, STORM_DAYS - 1)) {
            return bad();
        }
        int wanted = is ? 1 : 0;
        if (now.storms[day] == wanted) {
            return no();
        }
        now.storms[day] = wanted;
        return 1;
    }

    public int sails(int from, int to, int day) {
        if (noPlace(from) || noPlace(to) || outside(day, 0, STORM_DAYS - 1)) {
            return worse();
        }
        return ship.firstDayAt(now, from, to, day);
    }

    public int back(int from, int to, int day, int stay, int last) {
        if (noPlace(from) || noPlace(to) || outside(day, 0, STORM_DAYS - 1)) {
            return bad();
        }
        if (outside(stay, 0, 59) || outside(last, 0, 999)) {
            return bad();
        }
        int there = ship.firstDayAt(now, from, to, day);
        if (there == NONE) {
            return 0;
        }
        int home = ship.firstDayAt(now, to, from, there + stay);
        return home != NONE && home <= last ? 1 : 0;
    }

    // ---- what there is

    public int part(int what) {
        if (outside(what, 0, 2)) {
            return bad();
        }
        return partOf(what);
    }

    public int limb(int which, int i) {
        if (outside(which, 0, 1) || i < 0) {
            return bad();
        }
        Big side = which == 0 ? fraction.above : fraction.below;
        return i < side.size ? side.digit(i) : NONE;
    }

    public int image(int i) {
        if (outside(i, 0, IMAGES - 1)) {
            return bad();
        }
        images[i].copy(now);
        kept[i] = true;
        return 1;
    }

    public int from(int i) {
        if (outside(i, 0, IMAGES - 1)) {
            return bad();
        }
        if (!kept[i]) {
            return no();
        }
        now.copy(images[i]);
        changed();
        return 1;
    }

    public int status(int what) {
        switch (what) {
            case 0:
                return refusedBad;
            case 1:
                return refusedNo;
            case 2:
                return refusedFull;
            default:
                refusedBad++;
                return -1;
        }
    }

    public int count(int what) {
        if (outside(what, 0, State.COUNTS - 1)) {
            return bad();
        }
        return now.countOf(what);
    }

    public long digest() {
        long h = now.digestOnto(569);
        for (int what = 0; what <= 2; what++) {
            h = 31 * h + partOf(what);
        }
        h = digestRow(h, fraction.above.digits, fraction.above.size);
        return digestRow(h, fraction.below.digits, fraction.below.size);
    }

    // ---- refusals and tests of what is told

    private int bad() {
        refusedBad++;
        return BAD;
    }

    private int worse() {
        refusedBad++;
        return WORSE;
    }

    private int no() {
        refusedNo++;
        return NO;
    }

    private int full() {
        refusedFull++;
        return FULL;
    }

    private static boolean outside(int v, int least, int most) {
        return v < least || v > most;
    }

    private boolean noPlace(int place) {
        return outside(place, 0, now.places - 1);
    }

    private boolean noLot(int lot) {
        return outside(lot, 0, now.lots - 1);
    }

    private boolean noWhere(int where) {
        return noPlace(where) && where != JOINED && where != DEAD;
    }

    private static boolean noStory(int story) {
        return outside(story, 0, STORIES - 1);
    }

    private static boolean noKind(int kind) {
        return outside(kind, 0, KINDS - 1);
    }

    private static boolean noMonth(int month) {
        return outside(month, 0, MONTHS - 1);
    }

    // ---- help for the calls

    /** What was read and weighed is no longer so. */
    private void changed() {
        lives.fresh = false;
        worlds.fresh = false;
    }

    private int exchange(int[] row, int i, int v) {
        int was = row[i];
        row[i] = v;
        changed();
        return was;
    }

    private boolean hasFault(int story) {
        lives.refresh();
        return lives.tales[story].fault != NONE;
    }

    private boolean noWorlds() {
        if (now.places == 0) {
            return true;
        }
        lives.refresh();
        worlds.refresh();
        return worlds.total.isZero();
    }

    private int answerShare(Big weight) {
        fraction.become(weight, worlds.total);
        return 1;
    }

    private int partOf(int what) {
        if (what == 0) {
            return fraction.above.isZero() ? 0 : 1;
        }
        return what == 1 ? fraction.above.size : fraction.below.size;
    }

    /** Up to what is like for true and forged stones: that just k of n letters are right. */
    private static long rightLetters(int n, int k, int of10) {
        long chance = 1;
        for (int i = 0; i < n; i++) {
            chance *= i < k ? of10 : 10 - of10;
        }
        return chance;
    }

    private static long digestRow(long h, int[] row, int n) {
        long mixed = h;
        for (int i = 0; i < n && i < row.length; i++) {
            mixed = 31 * mixed + row[i];
        }
        return mixed;
    }

    /** All that an image keeps. */
    private static final class State {
        static final int SIGN_PLACE = 0, SIGN_KIND = 1, SIGN_FOUND = 2, SIGN_DUG = 3, SIGN_FIELDS = 4;
        static final int TELLER_SOURCE = 0, TELLER_LOT = 1, TELLER_MONTH = 2, TELLER_WHERE = 3, TELLER_WORTH = 4;
        static final int TELLER_FIELDS = 5;
        static final int POST_THERE = 0, POST_WORD = 1, POST_CROSS = 2, POST_FIELDS = 3;
        static final int COUNTS = 4 + STORIES;

        int places;
        int lots;
        int signs;
        int tellers;
        final int[] feeds = new int[PLACES];
        final int[] rains = new int[YEARS];
        final int[] people = new int[LOTS];
        final int[] puts = new int[2];
        final int[][] kinds = new int[KINDS][2];
        final int[] priors = new int[STORIES];
        final int[] lengths = new int[STORIES];
        final int[][] texts = new int[STORIES][LONGEST_TEXT];
        final int[][] signRows = new int[SIGNS][SIGN_FIELDS];
        final int[] post = new int[POST_FIELDS];
        final int[][] tellerRows = new int[TELLERS][TELLER_FIELDS];
        final int[][] ways = new int[PLACES][PLACES];
        final int[] storms = new int[STORM_DAYS];

        State() {
            Arrays.fill(rains, 5);
            Arrays.fill(priors, 1);
            puts[HARD] = 6;
            puts[TRUE] = 9;
            post[POST_WORD] = NONE;
            for (int kind = 0; kind < KINDS; kind++) {
                kinds[kind][EACH] = 100;
            }
        }

        void copy(State other) {
            places = other.places;
            lots = other.lots;
            signs = other.signs;
            tellers = other.tellers;
            copyRow(other.feeds, feeds);
            copyRow(other.rains, rains);
            copyRow(other.people, people);
            copyRow(other.puts, puts);
            copyRows(other.kinds, kinds);
            copyRow(other.priors, priors);
            copyRow(other.lengths, lengths);
            copyRows(other.texts, texts);
            copyRows(other.signRows, signRows);
            copyRow(other.post, post);
            copyRows(other.tellerRows, tellerRows);
            copyRows(other.ways, ways);
            copyRow(other.storms, storms);
        }

        private static void copyRow(int[] source, int[] target) {
            System.arraycopy(source, 0, target, 0, Math.min(source.length, target.length));
        }

        private static void copyRows(int[][] source, int[][] target) {
            for (int i = 0; i < source.length && i < target.length; i++) {
                copyRow(source[i], target[i]);
            }
        }

        int feedsIn(int place, int year) {
            return feeds[place] * rains[year] / 5;
        }

        boolean hasSign(int place, int kind) {
            for (int i = 0; i < signs; i++) {
                if (signRows[i][SIGN_PLACE] == place && signRows[i][SIGN_KIND] == kind) {
                    return true;
                }
            }
            return false;
        }

        /** Whether a teller is the first of his source. */
        boolean isHeard(int teller) {
            for (int i = 0; i < teller; i++) {
                if (tellerRows[i][TELLER_SOURCE] == tellerRows[teller][TELLER_SOURCE]) {
                    return false;
                }
            }
            return true;
        }

        int countOf(int what) {
            switch (what) {
                case 0:
                    return places;
                case 1:
                    return lots;
                case 2:
                    return signs;
                case 3:
                    return tellers;
                default:
                    return what >= 4 && what < COUNTS ? lengths[what - 4] : 0;
            }
        }

        long digestOnto(long start) {
            long h = start;
            for (int what = 0; what < COUNTS; what++) {
                h = 31 * h + countOf(what);
            }
            h = digestRow(h, feeds, places);
            h = digestRow(h, rains, YEARS);
            h = digestRow(h, people, lots);
            h = digestRow(h, puts, puts.length);
            h = digestRows(h, kinds, KINDS);
            for (int story = 0; story < STORIES; story++) {
                h = 31 * h + priors[story];
                h = digestRow(h, texts[story], lengths[story]);
            }
            h = digestRows(h, signRows, signs);
            h = digestRow(h, post, POST_FIELDS);
            h = digestRows(h, tellerRows, tellers);
            for (int place = 0; place < places; place++) {
                h = digestRow(h, ways[place], place);
            }
            return digestRow(h, storms, STORM_DAYS);
        }

        private static long digestRows(long start, int[][] rows, int n) {
            long h = start;
            for (int i = 0; i < n && i < rows.length; i++) {
                h = digestRow(h, rows[i], rows[i].length);
            }
            return h;
        }
    }

    /** A text's tokens, the last of them its end. */
    private static final class Tokens {
        static final int END = 0, NUMBER = 1, STOP = 2, WRONG = 3;
        static final int GO = 4, JOIN = 5, DIE = 6, WORD = 7, CROSS = 8;
        private static final int MOST_FIGURES = 3;

        /** The words' letters by their numbers, 8 bits each, the first the highest. */
        private static final long GO_LETTERS = 0x676f;
        private static final long JOIN_LETTERS = 0x6a6f696e;
        private static final long DIE_LETTERS = 0x646965;
        private static final long WORD_LETTERS = 0x776f7264;
        private static final long CROSS_LETTERS = 0x63726f7373L;

        private final int[] starts = new int[LONGEST_TEXT + 1];
        private final int[] tokens = new int[LONGEST_TEXT + 1];
        private final int[] values = new int[LONGEST_TEXT + 1];
        private int count;
        private int ahead;

        void read(int[] text, int length) {
            count = 0;
            ahead = 0;
            while (ahead < length && ahead < text.length) {
                int sign = text[ahead];
                int start = ahead;
                ahead++;
                if (isLetter(sign)) {
                    readLetters(text, length, start);
                } else if (isFigure(sign)) {
                    readFigures(text, length, start);
                } else if (sign != ' ') {
                    keep(start, sign == ';' ? STOP : WRONG, 0);
                }
            }
            keep(length, END, 0);
        }

        int tokenAt(int i) {
            return i >= 0 && i < count ? tokens[i] : END;
        }

        int startAt(int i) {
            return i >= 0 && i < count ? starts[i] : 0;
        }

        int valueAt(int i) {
            return i >= 0 && i < count ? values[i] : 0;
        }

        private void keep(int start, int token, int value) {
            if (count < tokens.length) {
                starts[count] = start;
                tokens[count] = token;
                values[count] = value;
                count++;
            }
        }

        private void readLetters(int[] text, int length, int start) {
            long letters = text[start];
            while (ahead < length && isLetter(text[ahead])) {
                letters = letters << 8 | text[ahead];
                ahead++;
            }
            keep(start, wordOf(letters), 0);
        }

        /** No letter is 0, so what falls off a long word's front does not make it look like a short one. */
        private static int wordOf(long letters) {
            if (letters == GO_LETTERS) {
                return GO;
            }
            if (letters == JOIN_LETTERS) {
                return JOIN;
            }
            if (letters == DIE_LETTERS) {
                return DIE;
            }
            if (letters == WORD_LETTERS) {
                return WORD;
            }
            return letters == CROSS_LETTERS ? CROSS : WRONG;
        }

        private void readFigures(int[] text, int length, int start) {
            int value = text[start] - '0';
            while (ahead < length && isFigure(text[ahead])) {
                if (ahead - start < MOST_FIGURES) {
                    value = 10 * value + text[ahead] - '0';
                }
                ahead++;
            }
            keep(start, ahead - start <= MOST_FIGURES ? NUMBER : WRONG, value);
        }

        private static boolean isLetter(int sign) {
            return sign >= 'a' && sign <= 'z';
        }

        private static boolean isFigure(int sign) {
            return sign >= '0' && sign <= '9';
        }
    }

    /** What a story's text tells. */
    private static final class Tale {
        final int[] whereabouts = new int[MONTHS];
        final int[] stays = new int[PLACES];
        int fault = NONE;
        int word = NONE;
        boolean cross;
        private int here;
        private int since;
        private int token;

        void read(Tokens text, int places) {
            fault = NONE;
            word = NONE;
            cross = false;
            here = 0;
            since = 0;
            token = 0;
            Arrays.fill(stays, 0);
            for (int i = 0; i < LONGEST_TEXT && fault == NONE && text.tokenAt(token) != Tokens.END; i++) {
                if (!readItem(text, places)) {
                    fault = text.startAt(token);
                }
            }
            stayUntil(MONTHS);
        }

        /** Whether it is an item; if not, the token stands at the one that can not stand there. */
        private boolean readItem(Tokens text, int places) {
            int item = text.tokenAt(token);
            int month = since;
            int place = 0;
            if (!mayBegin(item)) {
                return false;
            }
            token++;
            if (isLeg(item)) {
                month = text.valueAt(token);
                if (text.tokenAt(token) != Tokens.NUMBER || month >= MONTHS || month < since) {
                    return false;
                }
                token++;
            }
            if (item == Tokens.GO || item == Tokens.WORD) {
                place = text.valueAt(token);
                if (text.tokenAt(token) != Tokens.NUMBER || place >= places) {
                    return false;
                }
                token++;
            }
            if (text.tokenAt(token) != Tokens.STOP) {
                return false;
            }
            token++;
            take(item, month, place);
            return true;
        }

        private boolean mayBegin(int item) {
            if (isLeg(item)) {
                return here != JOINED && here != DEAD;
            }
            return item == Tokens.WORD && word == NONE || item == Tokens.CROSS && !cross;
        }

        private static boolean isLeg(int item) {
            return item == Tokens.GO || item == Tokens.JOIN || item == Tokens.DIE;
        }

        private void take(int item, int month, int place) {
            if (item == Tokens.WORD) {
                word = place;
            } else if (item == Tokens.CROSS) {
                cross = true;
            } else {
                stayUntil(month);
                here = item == Tokens.GO ? place : item == Tokens.JOIN ? JOINED : DEAD;
            }
        }

        private void stayUntil(int month) {
            for (int i = since; i < month && i < MONTHS; i++) {
                whereabouts[i] = here;
            }
            if (here < PLACES) {
                stays[here] += month - since;
            }
            since = month;
        }
    }

    /** What the stories tell, and what becomes of it when each lot lives one of them. */
    private static final class Lives {
        final State now = new State();
        private final Tokens tokens = new Tokens();
        final Tale[] tales = new Tale[STORIES];
        final int[] choice = new int[LOTS];
        private final int[] turns = new int[MONTHS];
        private int turnCount;
        private final int[] heads = new int[PLACES];
        private final int[] hungry = new int[PLACES];
        private final int[][] feeds = new int[PLACES][YEARS];
        boolean fresh;

        Lives() {
            for (int story = 0; story < STORIES; story++) {
                tales[story] = new Tale();
            }
        }

        void refresh() {
            if (fresh) {
                return;
            }
            fresh = true;
            for (int story = 0; story < STORIES; story++) {
                tokens.read(now.texts[story], now.lengths[story]);
                tales[story].read(tokens, now.places);
            }
            for (int place = 0; place < now.places; place++) {
                for (int year = 0; year < YEARS; year++) {
                    feeds[place][year] = now.feedsIn(place, year);
                }
            }
            findTurns();
        }

        /** In a year the months without a turn are like the one ahead: hunger need not look at them. */
        private void findTurns() {
            turnCount = 0;
            for (int month = 0; month < MONTHS; month++) {
                if (month % YEAR == 0 || someoneMoves(month)) {
                    turns[turnCount] = month;
                    turnCount++;
                }
            }
        }

        private boolean someoneMoves(int month) {
            for (int story = 0; story < STORIES; story++) {
                int[] whereabouts = tales[story].whereabouts;
                if (month > 0 && whereabouts[month] != whereabouts[month - 1]) {
                    return true;
                }
            }
            return false;
        }

        void allLive(int story) {
            Arrays.fill(choice, story);
        }

        /** Takes the world's number for a story of each lot: whether all these have no fault. */
        boolean choose(int world) {
            for (int lot = 0; lot < now.lots; lot++) {
                choice[lot] = (world >> (2 * lot)) & (STORIES - 1);
                if (tales[choice[lot]].fault != NONE) {
                    return false;
                }
            }
            return true;
        }

        boolean doAllLive(int story) {
            for (int lot = 0; lot < now.lots; lot++) {
                if (choice[lot] != story) {
                    return false;
                }
            }
            return tales[story].fault == NONE;
        }

        int left(int place, int kind) {
            int each = now.kinds[kind][EACH];
            int months = 0;
            for (int lot = 0; lot < now.lots; lot++) {
                months += now.people[lot] * tales[choice[lot]].stays[place];
            }
            return each > 0 ? Math.min(months / each, MOST_LEFT) : 0;
        }

        int hungerYears() {
            int count = 0;
            for (int turn = 0; turn < turnCount; turn++) {
                int month = turns[turn];
                if (month % YEAR == 0) {
                    Arrays.fill(hungry, 0);
                }
                countHeads(month);
                for (int place = 0; place < now.places; place++) {
                    if (hungry[place] == 0 && heads[place] > feeds[place][month / YEAR]) {
                        hungry[place] = 1;
                        count++;
                    }
                }
            }
            return count;
        }

        private void countHeads(int month) {
            Arrays.fill(heads, 0);
            for (int lot = 0; lot < now.lots; lot++) {
                int where = tales[choice[lot]].whereabouts[month];
                if (where < PLACES) {
                    heads[where] += now.people[lot];
                }
            }
        }

        /** No world has more: only where all people together would hunger can some of them. */
        int mostHunger() {
            int everyone = 0;
            for (int lot = 0; lot < now.lots; lot++) {
                everyone += now.people[lot];
            }
            int count = 0;
            for (int place = 0; place < now.places; place++) {
                for (int year = 0; year < YEARS; year++) {
                    if (everyone > feeds[place][year]) {
                        count++;
                    }
                }
            }
            return count;
        }
    }

    /**
     * The chance of each sign by how many were left, up to a factor that all worlds share:
     * shares of worlds are all that is asked for.
     */
    private static final class Chances {
        private final Big[] table = new Big[SIGNS * (MOST_LEFT + 1)];
        private final Big[] byFound = new Big[MOST_FOUND + 1];
        private final Big dugUp = new Big(CHANCE_ROOM);

        /** What each sign's row of the table was made of, so that it is made anew only when that changes. */
        private final int[] keys = new int[SIGNS];

        Chances() {
            for (int i = 0; i < table.length; i++) {
                table[i] = new Big(CHANCE_ROOM);
            }
            for (int i = 0; i < byFound.length; i++) {
                byFound[i] = new Big(CHANCE_ROOM);
            }
        }

        Big of(int sign, int left) {
            return table[sign * (MOST_LEFT + 1) + left];
        }

        void refresh(State now) {
            for (int sign = 0; sign < now.signs; sign++) {
                int[] row = now.signRows[sign];
                int carried = now.kinds[row[State.SIGN_KIND]][CARRIED];
                int key = 10000 + 1000 * row[State.SIGN_FOUND] + 10 * row[State.SIGN_DUG] + carried;
                if (keys[sign] != key) {
                    keys[sign] = key;
                    weighSign(sign, row[State.SIGN_FOUND], row[State.SIGN_DUG], carried);
                }
            }
        }

        /**
         * With one more left, c are found if c were and it was not dug up, or c - 1 were and it was.
         * Chances of c found are told by 10 to the (c + left), so one found less is one 10 more.
         */
        private void weighSign(int sign, int found, int dug, int carried) {
            carry(found, carried);
            for (int left = 0; left <= MOST_LEFT; left++) {
                Big chance = of(sign, left);
                chance.copy(byFound[found]);
                chance.timesPower(10, MOST_LEFT - left);
                for (int c = found; c > 0; c--) {
                    dugUp.copy(byFound[c - 1]);
                    dugUp.times(10 * dug);
                    byFound[c].times(10 - dug);
                    byFound[c].plus(dugUp);
                }
                byFound[0].times(10 - dug);
            }
        }

        /** None left: all that is found was carried there. */
        private void carry(int found, int carried) {
            long power = 1;
            for (int c = 0; c <= found; c++) {
                byFound[c].become(power);
                power *= carried;
            }
        }
    }

    /** The weights of all worlds, summed up by what is asked for. */
    private static final class Worlds {
        final Lives lives = new Lives();
        private final State now = lives.now;
        private final Chances chances = new Chances();
        private final int[][] shares = new int[LOTS][STORIES];
        private final Big[] lived = new Big[LOTS * STORIES];
        private final Big gathered = new Big(WORLD_ROOM);
        private Big weight = new Big(WORLD_ROOM);
        private Big spare = new Big(WORLD_ROOM);
        private int mostHunger;
        final Big[] alls = new Big[STORIES];
        final Big total = new Big(WORLD_ROOM);
        boolean fresh;

        Worlds() {
            for (int i = 0; i < lived.length; i++) {
                lived[i] = new Big(WORLD_ROOM);
            }
            for (int story = 0; story < STORIES; story++) {
                alls[story] = new Big(WORLD_ROOM);
            }
        }

        Big livedBy(int lot, int story) {
            return lived[lot * STORIES + story];
        }

        /** The lives are fresh already. */
        void refresh() {
            if (fresh) {
                return;
            }
            fresh = true;
            forgetSums();
            shareOut();
            chances.refresh(now);
            mostHunger = now.puts[HARD] < MOST_HARD ? lives.mostHunger() : 0;
            int worlds = 1 << (2 * now.lots);
            for (int world = 0; world < worlds; world++) {
                if (lives.choose(world)) {
                    weigh();
                    addUp();
                }
            }
        }

        private void forgetSums() {
            total.become(0);
            for (int i = 0; i < lived.length; i++) {
                lived[i].become(0);
            }
            for (int story = 0; story < STORIES; story++) {
                alls[story].become(0);
            }
        }

        /** What hangs on one lot's story alone: prior, tellers and, for lot 0, the post; 9 to the 9th at most. */
        private void shareOut() {
            for (int lot = 0; lot < now.lots; lot++) {
                for (int story = 0; story < STORIES; story++) {
                    int share = now.priors[story] * tellersShare(lot, lives.tales[story]);
                    shares[lot][story] = lot == 0 ? share * postShare(lives.tales[story]) : share;
                }
            }
        }

        private int tellersShare(int lot, Tale tale) {
            int share = 1;
            for (int teller = 0; teller < now.tellers; teller++) {
                int[] row = now.tellerRows[teller];
                if (row[State.TELLER_LOT] == lot && now.isHeard(teller)) {
                    int month = row[State.TELLER_MONTH];
                    boolean is = tale.whereabouts[month] == row[State.TELLER_WHERE];
                    share *= of10(is, row[State.TELLER_WORTH]);
                }
            }
            return share;
        }

        private int postShare(Tale tale) {
            if (now.post[State.POST_THERE] == 0) {
                return 1;
            }
            boolean sameWord = tale.word == now.post[State.POST_WORD];
            boolean sameCross = tale.cross == (now.post[State.POST_CROSS] == 1);
            return of10(sameWord, now.puts[TRUE]) * of10(sameCross, now.puts[TRUE]);
        }

        private static int of10(boolean is, int worth) {
            return is ? worth : 10 - worth;
        }

        /** Weighs the world that the lives have chosen. */
        private void weigh() {
            weight.become(1);
            for (int lot = 0; lot < now.lots; lot++) {
                weight.times(shares[lot][lives.choice[lot]]);
            }
            for (int sign = 0; sign < now.signs && !weight.isZero(); sign++) {
                int[] row = now.signRows[sign];
                int left = lives.left(row[State.SIGN_PLACE], row[State.SIGN_KIND]);
                spare.product(weight, chances.of(sign, left));
                Big product = spare;
                spare = weight;
                weight = product;
            }
            if (mostHunger > 0 && !weight.isZero()) {
                int hunger = lives.hungerYears();
                weight.timesPower(now.puts[HARD], hunger);
                weight.timesPower(MOST_HARD, mostHunger - hunger);
            }
        }

        private void addUp() {
            if (weight.isZero()) {
                return;
            }
            total.plus(weight);
            for (int lot = 0; lot < now.lots; lot++) {
                livedBy(lot, lives.choice[lot]).plus(weight);
            }
            for (int story = 0; story < STORIES; story++) {
                if (lives.doAllLive(story)) {
                    alls[story].plus(weight);
                }
            }
        }

        Big gatherWhere(int lot, int month, int where) {
            gathered.become(0);
            for (int story = 0; story < STORIES; story++) {
                if (lives.tales[story].whereabouts[month] == where) {
                    gathered.plus(livedBy(lot, story));
                }
            }
            return gathered;
        }

        /** 0 never dead at the end, 1 always, 2 open. */
        int lostOf(int lot) {
            boolean dead = false;
            boolean alive = false;
            for (int story = 0; story < STORIES; story++) {
                boolean dies = lives.tales[story].whereabouts[MONTHS - 1] == DEAD;
                boolean isLived = !livedBy(lot, story).isZero();
                dead = dead || isLived && dies;
                alive = alive || isLived && !dies;
            }
            return dead && alive ? 2 : dead ? 1 : 0;
        }

        int digNext() {
            int best = NONE;
            int greatest = 0;
            for (int place = 0; place < now.places; place++) {
                for (int kind = 0; kind < KINDS; kind++) {
                    int difference = now.hasSign(place, kind) ? 0 : differenceAt(place, kind);
                    if (difference > greatest) {
                        greatest = difference;
                        best = 10 * place + kind;
                    }
                }
            }
            return best;
        }

        private int differenceAt(int place, int kind) {
            int least = MOST_LEFT;
            int most = 0;
            for (int story = 0; story < STORIES; story++) {
                if (!alls[story].isZero()) {
                    lives.allLive(story);
                    int left = lives.left(place, kind);
                    least = Math.min(least, left);
                    most = Math.max(most, left);
                }
            }
            return most - least;
        }
    }

    /** The first days on which a ship can be at places. */
    private static final class Ship {
        private final int[] firstDay = new int[PLACES];
        private final int[] settled = new int[PLACES];

        int firstDayAt(State now, int from, int to, int day) {
            Arrays.fill(firstDay, NONE);
            Arrays.fill(settled, 0);
            firstDay[from] = day;
            for (int i = 0; i < now.places; i++) {
                int here = soonest();
                if (here != NONE) {
                    settled[here] = 1;
                    sailOnFrom(now, here);
                }
            }
            return firstDay[to];
        }

        /** Who sails later is never there sooner, so the soonest place can not be bettered any more. */
        private int soonest() {
            int best = NONE;
            for (int place = 0; place < PLACES; place++) {
                if (settled[place] == 0 && firstDay[place] != NONE) {
                    if (best == NONE || firstDay[place] < firstDay[best]) {
                        best = place;
                    }
                }
            }
            return best;
        }

        private void sailOnFrom(State now, int here) {
            for (int place = 0; place < now.places; place++) {
                int leg = now.ways[here][place];
                if (leg > 0 && settled[place] == 0) {
                    int day = endOfLeg(now.storms, firstDay[here], leg);
                    if (firstDay[place] == NONE || day < firstDay[place]) {
                        firstDay[place] = day;
                    }
                }
            }
        }

        private static int endOfLeg(int[] storms, int start, int leg) {
            int day = start;
            int ahead = leg;
            while (day < storms.length && ahead > 0) {
                if (storms[day] == 0) {
                    ahead--;
                }
                day++;
            }
            return day + ahead;
        }
    }

    /** A fraction in lowest terms; 0 by 1 at first. */
    private static final class Fraction {
        private static final int MOST_STEPS = 1000000;

        final Big above = new Big(WORLD_ROOM);
        final Big below = new Big(WORLD_ROOM);
        private final Big quotient = new Big(WORLD_ROOM);
        private Big greater = new Big(WORLD_ROOM);
        private Big lesser = new Big(WORLD_ROOM);

        Fraction() {
            below.become(1);
        }

        /** The whole is above 0. */
        void become(Big part, Big whole) {
            greater.copy(whole);
            lesser.copy(part);
            findDivisor();
            lesser.copy(part);
            lesser.divide(greater, above);
            lesser.copy(whole);
            lesser.divide(greater, below);
        }

        /** Leaves the greatest divisor of both in the greater one. */
        private void findDivisor() {
            for (int step = 0; step < MOST_STEPS && !lesser.isZero(); step++) {
                greater.divide(lesser, quotient);
                Big rest = greater;
                greater = lesser;
                lesser = rest;
            }
        }
    }

    /**
     * A whole number, 0 or more, by its digits to the base 2 to the 30, the lowest first.
     * Its room is chosen so that no number the document allows outgrows it.
     */
    private static final class Big {
        private static final int BITS = 30, MASK = 1073741823, MOST_STEPS = 1000000;

        final int[] digits;
        int size;

        Big(int room) {
            digits = new int[Math.max(room, 1)];
        }

        boolean isZero() {
            return size == 0;
        }

        int digit(int i) {
            return i >= 0 && i < size && i < digits.length ? digits[i] : 0;
        }

        private void growTo(int newSize) {
            while (size < newSize && size < digits.length) {
                digits[size] = 0;
                size++;
            }
        }

        private void trim() {
            while (size > 0 && digits[size - 1] == 0) {
                size--;
            }
        }

        void become(long v) {
            size = 0;
            for (long rest = v; rest > 0 && size < digits.length; rest >>= BITS) {
                digits[size] = (int) (rest & MASK);
                size++;
            }
        }

        void copy(Big other) {
            size = Math.min(other.size, digits.length);
            System.arraycopy(other.digits, 0, digits, 0, size);
        }

        /** Times a number below 2 to the 30. */
        void times(int factor) {
            if (factor == 0) {
                size = 0;
            }
            long carry = 0;
            for (int i = 0; i < size; i++) {
                carry += (long) digits[i] * factor;
                digits[i] = (int) (carry & MASK);
                carry >>= BITS;
            }
            if (carry > 0 && size < digits.length) {
                digits[size] = (int) carry;
                size++;
            }
        }

        /** Times a power of a number of 0 to 10, nine at once: 10 to the 9th is below 2 to the 30. */
        void timesPower(int base, int exponent) {
            for (int ahead = exponent; ahead > 0; ahead -= 9) {
                int factor = 1;
                for (int i = 0; i < 9 && i < ahead; i++) {
                    factor *= base;
                }
                times(factor);
            }
        }

        void plus(Big other) {
            growTo(Math.max(size, other.size) + 1);
            int carry = 0;
            for (int i = 0; i < size; i++) {
                carry += digits[i] + (i < other.size ? other.digits[i] : 0);
                digits[i] = carry & MASK;
                carry >>= BITS;
            }
            trim();
        }

        /** Becomes a times b, neither of which it is. */
        void product(Big a, Big b) {
            size = 0;
            growTo(a.size + b.size);
            for (int i = 0; i < a.size; i++) {
                long factor = a.digits[i];
                long carry = 0;
                for (int j = 0; j < b.size && i + j < size; j++) {
                    carry += factor * b.digits[j] + digits[i + j];
                    digits[i + j] = (int) (carry & MASK);
                    carry >>= BITS;
                }
                if (i + b.size < size) {
                    digits[i + b.size] = (int) carry;
                }
            }
            trim();
        }

        boolean isBelow(Big other) {
            if (size != other.size) {
                return size < other.size;
            }
            for (int i = size - 1; i >= 0; i--) {
                if (digits[i] != other.digits[i]) {
                    return digits[i] < other.digits[i];
                }
            }
            return false;
        }

        /**
         * Leaves what remains by a divisor above 0. Each step takes away a multiple that its
         * highest digits show to be not too great, so nothing ever has to be given back.
         */
        void divide(Big divisor, Big quotient) {
            quotient.become(0);
            for (int step = 0; step < MOST_STEPS && !divisor.isZero() && !isBelow(divisor); step++) {
                int shift = size - divisor.size;
                long top = digit(size - 1);
                long aboveTop = divisor.digit(divisor.size - 1) + 1L;
                long times;
                if (shift == 0) {
                    times = Math.max(topTwo() / (divisor.topTwo() + 1), 1);
                } else if (top >= aboveTop) {
                    times = top / aboveTop;
                } else {
                    shift--;
                    times = topTwo() / aboveTop;
                }
                takeAway(divisor, times, shift);
                quotient.raise((int) times, shift);
            }
        }

        private long topTwo() {
            return ((long) digit(size - 1) << BITS) + digit(size - 2);
        }

        /** Takes away so many times another, moved up by digits. */
        private void takeAway(Big other, long times, int shift) {
            long carry = 0;
            for (int i = 0; i < other.size && shift + i < size; i++) {
                carry += digits[shift + i] - times * other.digits[i];
                digits[shift + i] = (int) (carry & MASK);
                carry >>= BITS;
            }
            for (int i = shift + other.size; i < size && carry != 0; i++) {
                carry += digits[i];
                digits[i] = (int) (carry & MASK);
                carry >>= BITS;
            }
            trim();
        }

        /** Adds a number below 2 to the 30 that is moved up by digits. */
        private void raise(int v, int shift) {
            growTo(Math.max(size, shift + 1) + 1);
            int carry = v;
            for (int i = shift; i < size && carry > 0; i++) {
                carry += digits[i];
                digits[i] = carry & MASK;
                carry >>= BITS;
            }
            trim();
        }
    }
}
