/**
 * A house of translation. The document (../shared/DOC.md) says in numbered promises what each call
 * answers; the words in capitals in the comments here are its words.
 *
 * <p>Every row that a call may need is made once, by the constructors, and used again: no call makes
 * an object.
 */
public final class GlossHouse {
    public static final int NUMBER = -1;
    public static final int FULL = -2;
    public static final int KIND = -3;
    public static final int STATE = -4;
    public static final int NONE = -5;
    public static final int SIZE = -6;
    public static final int OWN = -7;
    public static final int FAULT = -10;

    private static final int WORDS = 100;
    private static final int FIRST_HOLE = 100;
    private static final int HOLES = 4;
    private static final int FIRST_OWN_WORD = 200;
    private static final int OWN_WORDS = 100;
    private static final int LONGEST_ROW = 10;
    private static final int LONGEST_PIECE = 8;

    private static final int MOST_PIECES = 8;
    private static final int SETS_OF_PIECES = 1 << MOST_PIECES;
    private static final int TONGUES = 3;
    private static final int ALL_TONGUES = 7;
    private static final int MOST_HANDS = 5;
    private static final int MOST_HOURS = 20;
    private static final int HIGHEST_RATE = 9;
    private static final int MOST_TERMS = 10;
    private static final int MOST_REMEMBERED = 20;
    private static final int FIRST_LIMIT = 6;
    private static final int HIGHEST_LIMIT = 10;

    private static final int PLAIN = 0;
    private static final int HELD = 1;
    private static final int SHORT = 2;

    private static final int NO_TEXT = 0;
    private static final int DRAFTED = 1;
    private static final int REVIEWED = 2;
    private static final int DOUBTFUL = 3;

    /** Where the SIGNS begin among the numbers that are asked for by 'what'. */
    private static final int SIGNS_FROM = 10;
    private static final int TEXT_SIGNS_FROM = 20;
    private static final int RELEASES_FROM = 9;

    private final Row draft;
    private final Ruler ruler;
    private final Matcher matcher;
    private final Planner planner;
    private final Hands hands;
    private final Terms terms;
    private final Memory remembered;
    private final Memory keptMemory;
    private final Book keptSource;
    private Book source;
    private Book next;
    private int shortLimit;
    private boolean isKept;

    public GlossHouse() {
        draft = new Row();
        ruler = new Ruler();
        matcher = new Matcher();
        planner = new Planner();
        hands = new Hands();
        terms = new Terms();
        remembered = new Memory();
        keptMemory = new Memory();
        keptSource = new Book();
        source = new Book();
        next = new Book();
        shortLimit = FIRST_LIMIT;
        isKept = false;
    }

    // ---- the source

    public int sign(int sign) {
        if (!isSign(sign)) {
            return NUMBER;
        }
        if (draft.isFull()) {
            return FULL;
        }
        draft.add(sign);
        return draft.size();
    }

    public int scrap() {
        int had = draft.size();
        draft.clear();
        return had;
    }

    public int piece(int kind) {
        if (!isIn(kind, PLAIN, SHORT)) {
            return NUMBER;
        }
        if (!isIn(draft.size(), 1, LONGEST_PIECE)) {
            return SIZE;
        }
        if (draft.holdsAny(FIRST_OWN_WORD, OWN_WORDS)) {
            return KIND;
        }
        if (next.isFull()) {
            return FULL;
        }
        next.add(kind, draft);
        draft.clear();
        return next.count() - 1;
    }

    public int drop() {
        int had = next.count();
        next.clear();
        return had;
    }

    public int turn() {
        if (next.count() == 0) {
            return NONE;
        }
        int cost = matcher.match(source, next, ruler);
        for (int i = 0; i < next.count(); i++) {
            takeOver(next.at(i), matcher.givenTo(i));
        }
        Book before = source;
        source = next;
        next = before;
        next.clear();
        return cost;
    }

    public int of(int piece, int what) {
        Piece one = source.at(piece);
        if (one == null) {
            return NUMBER;
        }
        if (what == 0) {
            return one.kind();
        }
        return what == 1 ? one.signs().size() : one.signs().askedFor(what, SIGNS_FROM);
    }

    public int far(int piece, int other) {
        Piece one = source.at(piece);
        Piece two = source.at(other);
        if (one == null || two == null) {
            return NUMBER;
        }
        return ruler.between(one.signs(), two.signs());
    }

    public int from(int piece) {
        Piece one = source.at(piece);
        return one == null ? NUMBER : one.given();
    }

    public int story(int piece) {
        Piece one = source.at(piece);
        return one == null ? NUMBER : one.storyAt(piece);
    }

    // ---- texts

    public int hand(int tongues, int hours, int rate) {
        if (!isIn(tongues, 1, ALL_TONGUES) || !isIn(hours, 0, MOST_HOURS)
                || !isIn(rate, 1, HIGHEST_RATE)) {
            return NUMBER;
        }
        if (hands.isFull()) {
            return FULL;
        }
        hands.add(tongues, hours, rate);
        return hands.count() - 1;
    }

    public int hours(int hand, int n) {
        if (!hands.has(hand) || !isIn(n, 0, MOST_HOURS)) {
            return NUMBER;
        }
        int had = hands.hoursOf(hand);
        hands.setHours(hand, n);
        return had;
    }

    public int term(int word, int tongue, int own) {
        if (!isWord(word) || !isTongue(tongue) || !isOwnWord(own)) {
            return NUMBER;
        }
        if (terms.isFull() && !terms.has(word, tongue)) {
            return FULL;
        }
        terms.put(word, tongue, own);
        return terms.count();
    }

    public int forget(int word, int tongue) {
        if (!isWord(word) || !isTongue(tongue)) {
            return NUMBER;
        }
        if (!terms.has(word, tongue)) {
            return NONE;
        }
        terms.remove(word, tongue);
        return terms.count();
    }

    public int write(int piece, int tongue, int hand) {
        int refusal = whyNoWriting(piece, tongue, hand);
        if (refusal < 0) {
            return refusal;
        }
        if (draft.size() == 0) {
            return SIZE;
        }
        if (draft.holdsAny(0, WORDS)) {
            return KIND;
        }
        Text text = textAt(piece, tongue);
        if (text != null) {
            text.becomeDraft(draft, hand);
        }
        int size = draft.size();
        draft.clear();
        return size;
    }

    public int review(int piece, int tongue, int hand) {
        Piece one = source.at(piece);
        Text text = textAt(piece, tongue);
        if (one == null || text == null || !hands.has(hand)) {
            return NUMBER;
        }
        if (!text.waitsForReview()) {
            return STATE;
        }
        if (!hands.knows(hand, tongue)) {
            return KIND;
        }
        if (text.writer() == hand) {
            return OWN;
        }
        int found = faultOf(one, text, tongue);
        if (found > 0) {
            return FAULT - found;
        }
        text.becomeReviewed();
        remembered.remember(one.signs(), tongue, text.signs());
        return remembered.count();
    }

    public int reuse(int piece, int tongue, int hand) {
        int refusal = whyNoWriting(piece, tongue, hand);
        if (refusal < 0) {
            return refusal;
        }
        Entry found = closestEntry(source.at(piece), tongue);
        Text text = textAt(piece, tongue);
        if (found == null || text == null) {
            return NONE;
        }
        text.becomeDraft(found.textSigns(), hand);
        return text.signs().size();
    }

    public int text(int piece, int tongue, int what) {
        Text text = textAt(piece, tongue);
        if (text == null) {
            return NUMBER;
        }
        if (what == 0) {
            return text.state();
        }
        if (what == 1) {
            return text.writer();
        }
        return what == 2 ? text.signs().size() : text.signs().askedFor(what, SIGNS_FROM);
    }

    public int fault(int piece, int tongue) {
        Piece one = source.at(piece);
        Text text = textAt(piece, tongue);
        if (one == null || text == null) {
            return NUMBER;
        }
        return text.state() == NO_TEXT ? NONE : faultOf(one, text, tongue);
    }

    public int limit(int n) {
        if (!isIn(n, 1, HIGHEST_LIMIT)) {
            return NUMBER;
        }
        int had = shortLimit;
        shortLimit = n;
        return had;
    }

    // ---- memory

    public int nearest(int piece, int tongue, int what) {
        Piece one = source.at(piece);
        if (one == null || !isTongue(tongue) || !isIn(what, 0, 2)) {
            return NUMBER;
        }
        int number = remembered.closest(one.signs(), tongue, ruler);
        Entry found = remembered.at(number);
        if (found == null) {
            return NONE;
        }
        if (what == 0) {
            return number;
        }
        return what == 1 ? ruler.between(one.signs(), found.pieceSigns()) : found.textSigns().size();
    }

    public int memory(int k, int what) {
        Entry entry = remembered.at(k);
        if (entry == null) {
            return NUMBER;
        }
        if (what == 0) {
            return entry.tongue();
        }
        if (what == 1) {
            return entry.pieceSigns().size();
        }
        if (what == 2) {
            return entry.textSigns().size();
        }
        return what < TEXT_SIGNS_FROM
                ? entry.pieceSigns().askedFor(what, SIGNS_FROM)
                : entry.textSigns().askedFor(what, TEXT_SIGNS_FROM);
    }

    // ---- work

    public int effort(int piece, int tongue) {
        Piece one = source.at(piece);
        return one == null || !isTongue(tongue) ? NUMBER : effortFor(one, tongue);
    }

    public int plan(int tongue, int piece) {
        if (!isTongue(tongue) || source.at(piece) == null) {
            return NUMBER;
        }
        makePlan(tongue);
        return planner.handOf(piece);
    }

    public int planned(int tongue, int what) {
        if (!isTongue(tongue) || !isIn(what, 0, 2)) {
            return NUMBER;
        }
        makePlan(tongue);
        if (what == 0) {
            return planner.withHand();
        }
        return what == 1 ? planner.cost() : planner.needing();
    }

    public int release(int tongue, int i) {
        return isTongue(tongue) ? source.releasedSign(tongue, i) : NUMBER;
    }

    public int many(int what) {
        switch (what) {
            case 0:
                return source.count();
            case 1:
                return next.count();
            case 2:
                return draft.size();
            case 3:
                return hands.count();
            case 4:
                return terms.count();
            case 5:
                return remembered.count();
            case 6:
                return source.textsThatAre(DRAFTED);
            case 7:
                return source.textsThatAre(REVIEWED);
            case 8:
                return source.textsThatAre(DOUBTFUL);
            default:
                return isIn(what, RELEASES_FROM, RELEASES_FROM + TONGUES - 1)
                        ? source.releasedSize(what - RELEASES_FROM) : NUMBER;
        }
    }

    // ---- kept

    public int keep() {
        keptSource.copy(source);
        keptMemory.copy(remembered);
        isKept = true;
        return 1;
    }

    public int back() {
        if (!isKept) {
            return NONE;
        }
        source.copy(keptSource);
        remembered.copy(keptMemory);
        return 1;
    }

    // ---- what several calls share

    private static boolean isIn(int number, int least, int most) {
        return number >= least && number <= most;
    }

    private static boolean isWord(int sign) {
        return isIn(sign, 0, WORDS - 1);
    }

    private static boolean isOwnWord(int sign) {
        return isIn(sign, FIRST_OWN_WORD, FIRST_OWN_WORD + OWN_WORDS - 1);
    }

    private static boolean isSign(int sign) {
        return isWord(sign) || isOwnWord(sign) || isIn(sign, FIRST_HOLE, FIRST_HOLE + HOLES - 1);
    }

    private static boolean isTongue(int tongue) {
        return isIn(tongue, 0, TONGUES - 1);
    }

    /** The TEXT (it may be in STATE 0), or null if there is no such PIECE or TONGUE. */
    private Text textAt(int piece, int tongue) {
        Piece one = source.at(piece);
        return one == null ? null : one.textIn(tongue);
    }

    private void takeOver(Piece later, int place) {
        Piece before = source.at(place);
        if (later != null && before != null) {
            later.follow(before, place, ruler.between(later.signs(), before.signs()));
        }
    }

    /** The refusals that write() and reuse() share, or 0. */
    private int whyNoWriting(int piece, int tongue, int hand) {
        Piece one = source.at(piece);
        if (one == null || !isTongue(tongue) || !hands.has(hand)) {
            return NUMBER;
        }
        return one.kind() == HELD || !hands.knows(hand, tongue) ? KIND : 0;
    }

    private int faultOf(Piece piece, Text text, int tongue) {
        if (hasOtherHoles(piece.signs(), text.signs())) {
            return 1;
        }
        if (lacksTerm(piece.signs(), text.signs(), tongue)) {
            return 2;
        }
        return piece.kind() == SHORT && text.signs().size() > shortLimit ? 3 : 0;
    }

    private static boolean hasOtherHoles(Row piece, Row text) {
        for (int hole = FIRST_HOLE; hole < FIRST_HOLE + HOLES; hole++) {
            if (piece.timesOf(hole) != text.timesOf(hole)) {
                return true;
            }
        }
        return false;
    }

    private boolean lacksTerm(Row piece, Row text, int tongue) {
        for (int i = 0; i < piece.size(); i++) {
            int word = piece.at(i);
            if (terms.has(word, tongue) && text.timesOf(terms.ownWordOf(word, tongue)) == 0) {
                return true;
            }
        }
        return false;
    }

    /** THE NEAREST, or null. */
    private Entry closestEntry(Piece piece, int tongue) {
        return piece == null ? null
                : remembered.at(remembered.closest(piece.signs(), tongue, ruler));
    }

    /** EFFORT, or 0 if the PIECE doesn't NEED work. */
    private int effortFor(Piece piece, int tongue) {
        if (!piece.needsWork(tongue)) {
            return 0;
        }
        Entry found = closestEntry(piece, tongue);
        if (found == null) {
            return piece.signs().size();
        }
        int apart = ruler.between(piece.signs(), found.pieceSigns());
        if (apart == 0) {
            return 1;
        }
        return apart <= 2 ? 2 : piece.signs().size();
    }

    private void makePlan(int tongue) {
        for (int i = 0; i < MOST_PIECES; i++) {
            Piece one = source.at(i);
            planner.setEffort(i, one == null ? 0 : effortFor(one, tongue));
        }
        planner.solve(hands, tongue);
    }

    /** A row of SIGNS, long enough for any that the document knows. */
    private static final class Row {
        private final int[] signs = new int[LONGEST_ROW];
        private int size;

        int size() {
            return size;
        }

        boolean isFull() {
            return size >= LONGEST_ROW;
        }

        /** NUMBER, which is no SIGN, where there is none. */
        int at(int i) {
            return i >= 0 && i < size ? signs[i] : NUMBER;
        }

        /** SIGN i, when first + i is asked for. */
        int askedFor(int what, int first) {
            // the test comes first, as the difference of any two ints may wrap around
            return what < first ? NUMBER : at(what - first);
        }

        void add(int sign) {
            if (!isFull()) {
                signs[size] = sign;
                size++;
            }
        }

        void clear() {
            size = 0;
        }

        void copy(Row other) {
            size = other.size;
            for (int i = 0; i < size; i++) {
                signs[i] = other.signs[i];
            }
        }

        boolean isSameAs(Row other) {
            if (size != other.size) {
                return false;
            }
            for (int i = 0; i < size; i++) {
                if (signs[i] != other.signs[i]) {
                    return false;
                }
            }
            return true;
        }

        int timesOf(int sign) {
            int times = 0;
            for (int i = 0; i < size; i++) {
                if (signs[i] == sign) {
                    times++;
                }
            }
            return times;
        }

        /** Whether one of its SIGNS is among so many from the first on. */
        boolean holdsAny(int first, int amount) {
            for (int i = 0; i < size; i++) {
                if (isIn(signs[i], first, first + amount - 1)) {
                    return true;
                }
            }
            return false;
        }
    }

    /** Tells FAR of two rows. */
    private static final class Ruler {
        /** One line of the usual table is enough: the cell behind it is carried along. */
        private final int[] line = new int[LONGEST_ROW + 1];

        int between(Row one, Row two) {
            for (int j = 0; j <= two.size(); j++) {
                line[j] = j;
            }
            for (int i = 1; i <= one.size(); i++) {
                int behind = line[0];
                line[0] = i;
                for (int j = 1; j <= two.size(); j++) {
                    int above = line[j];
                    int changed = one.at(i - 1) == two.at(j - 1) ? behind : behind + 1;
                    line[j] = Math.min(changed, Math.min(above, line[j - 1]) + 1);
                    behind = above;
                }
            }
            return line[two.size()];
        }
    }

    /** The TEXT of a PIECE in a TONGUE, or the room for one (STATE 0). */
    private static final class Text {
        private final Row signs = new Row();
        private int state = NO_TEXT;
        private int writer = NONE;

        Row signs() {
            return signs;
        }

        int state() {
            return state;
        }

        /** NONE without a TEXT. */
        int writer() {
            return writer;
        }

        boolean waitsForReview() {
            return state == DRAFTED || state == DOUBTFUL;
        }

        void becomeDraft(Row row, int hand) {
            signs.copy(row);
            writer = hand;
            state = DRAFTED;
        }

        void becomeReviewed() {
            state = REVIEWED;
        }

        void becomeDoubtful() {
            if (state != NO_TEXT) {
                state = DOUBTFUL;
            }
        }

        void clear() {
            signs.clear();
            writer = NONE;
            state = NO_TEXT;
        }

        void copy(Text other) {
            signs.copy(other.signs);
            writer = other.writer;
            state = other.state;
        }
    }

    /** A PIECE with its TEXTS, and how it came. */
    private static final class Piece {
        private final Row signs = new Row();
        private final Text[] texts = new Text[TONGUES];
        private int kind = PLAIN;
        private int given = NONE;
        private int apart;

        Piece() {
            for (int t = 0; t < TONGUES; t++) {
                texts[t] = new Text();
            }
        }

        Row signs() {
            return signs;
        }

        int kind() {
            return kind;
        }

        /** The place of the PIECE that it was given, or NONE. */
        int given() {
            return given;
        }

        Text textIn(int tongue) {
            return isTongue(tongue) ? texts[tongue] : null;
        }

        int storyAt(int place) {
            if (given == NONE) {
                return 3;
            }
            if (apart > 0) {
                return 2;
            }
            return given == place ? 0 : 1;
        }

        boolean isReviewedIn(int tongue) {
            return isTongue(tongue) && texts[tongue].state() == REVIEWED;
        }

        boolean needsWork(int tongue) {
            return kind != HELD && !isReviewedIn(tongue);
        }

        /** What it adds to THE RELEASE. */
        Row releasedIn(int tongue) {
            return isReviewedIn(tongue) ? texts[tongue].signs() : signs;
        }

        int textsThatAre(int state) {
            int number = 0;
            for (int t = 0; t < TONGUES; t++) {
                if (texts[t].state() == state) {
                    number++;
                }
            }
            return number;
        }

        void begin(int newKind, Row row) {
            kind = newKind;
            signs.copy(row);
            given = NONE;
            apart = 0;
            for (int t = 0; t < TONGUES; t++) {
                texts[t].clear();
            }
        }

        void follow(Piece before, int place, int distance) {
            given = place;
            apart = distance;
            if (kind == HELD) {
                return;
            }
            for (int t = 0; t < TONGUES; t++) {
                texts[t].copy(before.texts[t]);
                if (distance > 0) {
                    texts[t].becomeDoubtful();
                }
            }
        }

        void copy(Piece other) {
            kind = other.kind;
            signs.copy(other.signs);
            given = other.given;
            apart = other.apart;
            for (int t = 0; t < TONGUES; t++) {
                texts[t].copy(other.texts[t]);
            }
        }
    }

    /** A row of PIECES: THE SOURCE, THE NEXT one, or the one that is kept. */
    private static final class Book {
        private final Piece[] pieces = new Piece[MOST_PIECES];
        private int count;

        Book() {
            for (int i = 0; i < MOST_PIECES; i++) {
                pieces[i] = new Piece();
            }
        }

        int count() {
            return count;
        }

        boolean isFull() {
            return count >= MOST_PIECES;
        }

        /** Null where there is none. */
        Piece at(int place) {
            return place >= 0 && place < count ? pieces[place] : null;
        }

        void add(int kind, Row row) {
            if (!isFull()) {
                pieces[count].begin(kind, row);
                count++;
            }
        }

        void clear() {
            count = 0;
        }

        void copy(Book other) {
            count = other.count;
            for (int i = 0; i < count; i++) {
                pieces[i].copy(other.pieces[i]);
            }
        }

        int textsThatAre(int state) {
            int number = 0;
            for (int i = 0; i < count; i++) {
                number += pieces[i].textsThatAre(state);
            }
            return number;
        }

        int releasedSize(int tongue) {
            int size = 0;
            for (int i = 0; i < count; i++) {
                size += pieces[i].releasedIn(tongue).size();
            }
            return size;
        }

        /** SIGN number i of THE RELEASE, or NONE. */
        int releasedSign(int tongue, int i) {
            if (i < 0) {
                return NONE;
            }
            int left = i;
            for (int p = 0; p < count; p++) {
                Row row = pieces[p].releasedIn(tongue);
                if (left < row.size()) {
                    return row.at(left);
                }
                left -= row.size();
            }
            return NONE;
        }
    }

    /** One of THE MEMORY. */
    private static final class Entry {
        private final Row pieceSigns = new Row();
        private final Row textSigns = new Row();
        private int tongue;

        Row pieceSigns() {
            return pieceSigns;
        }

        Row textSigns() {
            return textSigns;
        }

        int tongue() {
            return tongue;
        }

        void fill(Row piece, int newTongue, Row text) {
            pieceSigns.copy(piece);
            tongue = newTongue;
            textSigns.copy(text);
        }

        boolean isJust(Row piece, int otherTongue, Row text) {
            return tongue == otherTongue && pieceSigns.isSameAs(piece) && textSigns.isSameAs(text);
        }
    }

    /** THE MEMORY, the eldest first. */
    private static final class Memory {
        private final Entry[] entries = new Entry[MOST_REMEMBERED];
        private int count;

        Memory() {
            for (int k = 0; k < MOST_REMEMBERED; k++) {
                entries[k] = new Entry();
            }
        }

        int count() {
            return count;
        }

        /** Null where there is none. */
        Entry at(int k) {
            return k >= 0 && k < count ? entries[k] : null;
        }

        void remember(Row piece, int tongue, Row text) {
            for (int k = 0; k < count; k++) {
                if (entries[k].isJust(piece, tongue, text)) {
                    return;
                }
            }
            if (count < MOST_REMEMBERED) {
                count++;
            } else {
                putEldestLast();
            }
            entries[count - 1].fill(piece, tongue, text);
        }

        /** The eldest goes, but its rows serve the youngest. */
        private void putEldestLast() {
            Entry eldest = entries[0];
            for (int k = 1; k < MOST_REMEMBERED; k++) {
                entries[k - 1] = entries[k];
            }
            entries[MOST_REMEMBERED - 1] = eldest;
        }

        /** The number of THE NEAREST, or NONE. */
        int closest(Row piece, int tongue, Ruler ruler) {
            int found = NONE;
            int least = LONGEST_ROW + 1;
            for (int k = 0; k < count; k++) {
                if (entries[k].tongue() == tongue) {
                    int apart = ruler.between(piece, entries[k].pieceSigns());
                    if (apart <= least) {
                        least = apart;
                        found = k;
                    }
                }
            }
            return found;
        }

        void copy(Memory other) {
            count = other.count;
            for (int k = 0; k < count; k++) {
                Entry entry = other.entries[k];
                entries[k].fill(entry.pieceSigns(), entry.tongue(), entry.textSigns());
            }
        }
    }

    private static final class Hands {
        private final int[] tongues = new int[MOST_HANDS];
        private final int[] hours = new int[MOST_HANDS];
        private final int[] rates = new int[MOST_HANDS];
        private int count;

        int count() {
            return count;
        }

        boolean isFull() {
            return count >= MOST_HANDS;
        }

        boolean has(int hand) {
            return hand >= 0 && hand < count;
        }

        boolean knows(int hand, int tongue) {
            return has(hand) && isTongue(tongue) && ((tongues[hand] >> tongue) & 1) == 1;
        }

        int hoursOf(int hand) {
            return has(hand) ? hours[hand] : 0;
        }

        int rateOf(int hand) {
            return has(hand) ? rates[hand] : 0;
        }

        void add(int knownTongues, int firstHours, int rate) {
            if (!isFull()) {
                tongues[count] = knownTongues;
                hours[count] = firstHours;
                rates[count] = rate;
                count++;
            }
        }

        void setHours(int hand, int n) {
            if (has(hand)) {
                hours[hand] = n;
            }
        }
    }

    private static final class Terms {
        /** The OWN WORD of each WORD in each TONGUE; 0, which is none, without a TERM. */
        private final int[][] ownWords = new int[TONGUES][WORDS];
        private int count;

        int count() {
            return count;
        }

        boolean isFull() {
            return count >= MOST_TERMS;
        }

        int ownWordOf(int word, int tongue) {
            return isWord(word) && isTongue(tongue) ? ownWords[tongue][word] : 0;
        }

        boolean has(int word, int tongue) {
            return ownWordOf(word, tongue) != 0;
        }

        void put(int word, int tongue, int own) {
            if (isWord(word) && isTongue(tongue)) {
                count += has(word, tongue) ? 0 : 1;
                ownWords[tongue][word] = own;
            }
        }

        void remove(int word, int tongue) {
            if (has(word, tongue)) {
                ownWords[tongue][word] = 0;
                count--;
            }
        }
    }

    /**
     * Finds THE MATCH. What a way to match is worth is one long, the less the better: its cost stands
     * in the high bits, and below it a digit for each PIECE of THE NEXT one, the first the highest,
     * that tells what it was given. So the least of these is the least cost and, of several, the one
     * that the document wants; and as they are sums, they can be put together PIECE by PIECE.
     */
    private static final class Matcher {
        private static final int COST_SHIFT = 32;
        private static final int DIGIT_BITS = 4;
        private static final int DIGIT = 15;
        private static final int GIVEN_NONE = MOST_PIECES;

        /** By the set of the PIECES of THE SOURCE that may be given. */
        private final long[] best = new long[SETS_OF_PIECES];
        private final long[] worth = new long[MOST_PIECES];
        private long found;

        /** What THE MATCH costs. */
        int match(Book source, Book next, Ruler ruler) {
            int all = (1 << source.count()) - 1;
            for (int set = 0; set <= all; set++) {
                best[set] = 0;
            }
            for (int i = 0; i < next.count(); i++) {
                Piece piece = next.at(i);
                if (piece != null) {
                    weigh(piece.signs(), i, source, ruler);
                    long without = worthOf(piece.signs().size(), GIVEN_NONE, i);
                    giveOne(source.count(), without);
                }
            }
            found = best[all];
            return (int) (found >> COST_SHIFT);
        }

        /** The place of the PIECE that was given to a PIECE of THE NEXT one, or NONE. */
        int givenTo(int i) {
            int digit = (int) (found >> shiftOf(i)) & DIGIT;
            return digit == GIVEN_NONE ? NONE : digit;
        }

        private void weigh(Row signs, int i, Book source, Ruler ruler) {
            for (int j = 0; j < source.count(); j++) {
                Piece before = source.at(j);
                if (before != null) {
                    worth[j] = worthOf(ruler.between(signs, before.signs()), j, i);
                }
            }
        }

        private void giveOne(int places, long without) {
            // downwards, as each set is made from lesser ones that don't know of this PIECE yet
            for (int set = (1 << places) - 1; set >= 0; set--) {
                long least = best[set] + without;
                for (int j = 0; j < places; j++) {
                    if (((set >> j) & 1) == 1) {
                        least = Math.min(least, best[set ^ (1 << j)] + worth[j]);
                    }
                }
                best[set] = least;
            }
        }

        private static long worthOf(int cost, int digit, int i) {
            return ((long) cost << COST_SHIFT) + ((long) digit << shiftOf(i));
        }

        private static int shiftOf(int i) {
            return DIGIT_BITS * (MOST_PIECES - 1 - i);
        }
    }

    /**
     * Finds THE PLAN in the manner of the Matcher: the highest bits count the PIECES that are left
     * without a HAND, below them stands what the plan COSTS, and below that the digits.
     */
    private static final class Planner {
        private static final int LEFT_SHIFT = 40;
        private static final int COST_SHIFT = 24;
        private static final int COST_MASK = 0xFFFF;
        private static final int DIGIT_BITS = 3;
        private static final int DIGIT = 7;
        private static final int NO_HAND = MOST_HANDS;

        private final int[] efforts = new int[MOST_PIECES];
        /** By set of PIECES: their EFFORTS together. */
        private final int[] load = new int[SETS_OF_PIECES];
        /** By set of PIECES: a 1 for the digit of each. */
        private final int[] ones = new int[SETS_OF_PIECES];
        /** By the set of the PIECES that are planned, with the HANDS seen so far. */
        private final long[] best = new long[SETS_OF_PIECES];
        private int needy;
        private long found;

        Planner() {
            for (int i = 0; i < MOST_PIECES; i++) {
                int bit = 1 << i;
                for (int set = 0; set < bit; set++) {
                    ones[bit + set] = ones[set] + (1 << shiftOf(i));
                }
            }
        }

        /** 0 for a PIECE that doesn't NEED work. */
        void setEffort(int piece, int effort) {
            if (piece >= 0 && piece < MOST_PIECES) {
                efforts[piece] = effort;
            }
        }

        void solve(Hands hands, int tongue) {
            measureSets();
            for (int set = 0; set < SETS_OF_PIECES; set++) {
                best[set] = ((long) Integer.bitCount(set) << LEFT_SHIFT) + NO_HAND * ones[set];
            }
            for (int hand = 0; hand < hands.count(); hand++) {
                if (hands.knows(hand, tongue)) {
                    giveTo(hand, hands.hoursOf(hand), hands.rateOf(hand));
                }
            }
            found = best[needy];
        }

        int needing() {
            return Integer.bitCount(needy);
        }

        int withHand() {
            return needing() - (int) (found >> LEFT_SHIFT);
        }

        int cost() {
            return (int) (found >> COST_SHIFT) & COST_MASK;
        }

        int handOf(int piece) {
            if (piece < 0 || piece >= MOST_PIECES || ((needy >> piece) & 1) == 0) {
                return NONE;
            }
            int digit = (int) (found >> shiftOf(piece)) & DIGIT;
            return digit == NO_HAND ? NONE : digit;
        }

        private void measureSets() {
            needy = 0;
            for (int i = 0; i < MOST_PIECES; i++) {
                int bit = 1 << i;
                needy += efforts[i] > 0 ? bit : 0;
                for (int set = 0; set < bit; set++) {
                    load[bit + set] = load[set] + efforts[i];
                }
            }
        }

        private void giveTo(int hand, int hours, int rate) {
            // downwards, as each set is made from lesser ones that don't know of this HAND yet
            for (int set = needy; set > 0; set = (set - 1) & needy) {
                long least = best[set];
                for (int part = set; part > 0; part = (part - 1) & set) {
                    if (load[part] <= hours) {
                        long worth = ((long) (load[part] * rate) << COST_SHIFT) + hand * ones[part];
                        least = Math.min(least, best[set ^ part] + worth);
                    }
                }
                best[set] = least;
            }
        }

        private static int shiftOf(int piece) {
            return DIGIT_BITS * (MOST_PIECES - 1 - piece);
        }
    }
}
