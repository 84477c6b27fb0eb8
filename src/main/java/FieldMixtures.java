/**
 * Contests for fields by two players, who allocate resources to them and mix their allocations.
 *
 * No call makes an object: every row is made once, with the object, and used again.
 */
public final class FieldMixtures {
    public static final int INVALID_ARGUMENT = -1000001;
    public static final int NOT_POSSIBLE = -1000002;
    public static final int LIMIT_REACHED = -1000003;
    public static final int NOT_FOUND = -1000004;

    private static final int FEWEST_FIELDS = 2;
    private static final int MOST_FIELDS = 4;
    private static final int FIRST_FIELDS = 3;
    private static final int MOST_VALUE = 9;
    private static final int FIRST_VALUE = 1;
    private static final int MOST_RESOURCES = 8;
    private static final int FIRST_RESOURCES = 4;
    private static final int MOST_BOUND = 8;
    private static final int MOST_RULE = 2;
    /** The ways to give 8 resources to 4 fields. */
    private static final int MOST_ALLOCATIONS = 165;
    private static final int MOST_MIXED = 12;
    private static final int MOST_WEIGHT = 99;
    private static final int MOST_ROUNDS = 20;
    private static final int MOST_STATES = 4;
    private static final int MOST_SIGNS = 80;
    private static final int FIRST_SIGN = 32;
    private static final int LAST_SIGN = 126;
    private static final int NO_SIGN = 0;
    private static final int NO_FAULT = 0;
    private static final int WRONG_FORM = 1;
    private static final int WRONG_CONTENT = 2;
    private static final int TOO_MANY = 3;
    /** Told numbers that can be below 0 are raised, so that none looks like an error. */
    private static final int RAISE_OF_GAINS = 1000;
    private static final int RAISE_OF_UPPER_PARTS = 100000000;

    private final Contest contest;
    private final Contest draft;
    private final History history;
    private final AllocationList firstList;
    private final AllocationList secondList;
    private final Scores scores;
    private final BestReply firstReply;
    private final BestReply secondReply;
    private final Text text;
    private final TextReader reader;

    public FieldMixtures() {
        contest = new Contest();
        draft = new Contest();
        history = new History();
        firstList = new AllocationList();
        secondList = new AllocationList();
        scores = new Scores();
        firstReply = new BestReply();
        secondReply = new BestReply();
        text = new Text();
        reader = new TextReader();
    }

    // ---- the contest

    public int fields(int many) {
        if (!isIn(many, FEWEST_FIELDS, MOST_FIELDS)) {
            return INVALID_ARGUMENT;
        }
        int before = contest.fields;
        history.record(contest);
        contest.startWith(many);
        return before;
    }

    public int value(int field, int value) {
        if (!contest.hasField(field) || !isIn(value, 1, MOST_VALUE)) {
            return INVALID_ARGUMENT;
        }
        int before = contest.values[field];
        history.record(contest);
        contest.values[field] = value;
        return before;
    }

    public int resources(int player, int resources) {
        if (!isPlayer(player) || !isIn(resources, 0, MOST_RESOURCES)) {
            return INVALID_ARGUMENT;
        }
        history.record(contest);
        Side side = contest.side(player);
        side.resources = resources;
        side.dropWhatIsNotAllowed(contest.fields);
        return side.mixture.size;
    }

    public int bound(int player, int field, int bound) {
        if (!isPlayer(player) || !contest.hasField(field) || !isIn(bound, 0, MOST_BOUND)) {
            return INVALID_ARGUMENT;
        }
        history.record(contest);
        Side side = contest.side(player);
        side.bounds[field] = bound;
        side.dropWhatIsNotAllowed(contest.fields);
        return side.mixture.size;
    }

    public int tie(int rule) {
        if (!isIn(rule, 0, MOST_RULE)) {
            return INVALID_ARGUMENT;
        }
        int before = contest.rule;
        history.record(contest);
        contest.rule = rule;
        return before;
    }

    // ---- allocations

    public int allocations(int player, int index) {
        if (!isPlayer(player) || index < -1) {
            return INVALID_ARGUMENT;
        }
        AllocationList list = freshList(player);
        if (index == -1) {
            return list.size;
        }
        return index < list.size ? list.numbers[index] : NOT_FOUND;
    }

    public int gains(int first, int second) {
        if (!contest.allows(0, first) || !contest.allows(1, second)) {
            return INVALID_ARGUMENT;
        }
        return RAISE_OF_GAINS + contest.gainOf(0, first, second);
    }

    public int better(int player, int allocation) {
        if (!isPlayer(player) || !contest.allows(player, allocation)) {
            return INVALID_ARGUMENT;
        }
        AllocationList own = freshList(player);
        AllocationList others = freshList(1 - player);
        for (int index = 0; index < own.size; index++) {
            if (isAlwaysBetter(player, own.numbers[index], allocation, others)) {
                return own.numbers[index];
            }
        }
        return NOT_FOUND;
    }

    // ---- mixtures

    public int put(int player, int allocation, int weight) {
        if (!isPlayer(player) || !contest.allows(player, allocation) || !isIn(weight, 1, MOST_WEIGHT)) {
            return INVALID_ARGUMENT;
        }
        Mixture mixture = contest.side(player).mixture;
        if (!mixture.hasRoomFor(allocation)) {
            return LIMIT_REACHED;
        }
        int before = mixture.weightOf(allocation);
        history.record(contest);
        mixture.setWeight(allocation, weight);
        return before;
    }

    public int take(int player, int allocation) {
        if (!isPlayer(player) || !contest.allows(player, allocation)) {
            return INVALID_ARGUMENT;
        }
        Mixture mixture = contest.side(player).mixture;
        int before = mixture.weightOf(allocation);
        if (before == 0) {
            return NOT_POSSIBLE;
        }
        history.record(contest);
        mixture.remove(allocation);
        return before;
    }

    public int round(int many) {
        if (!isIn(many, 1, MOST_ROUNDS)) {
            return INVALID_ARGUMENT;
        }
        if (contest.lacksMixture()) {
            return NOT_POSSIBLE;
        }
        draft.copyFrom(contest);
        AllocationList firsts = freshList(0);
        AllocationList seconds = freshList(1);
        for (int played = 0; played < many; played++) {
            if (!playRoundInDraft(firsts, seconds)) {
                return LIMIT_REACHED;
            }
        }
        changeToDraft();
        return contest.sizeOfMixtures();
    }

    public int mixtureOf(int player, int index, int what) {
        if (!isPlayer(player) || index < 0 || !isIn(what, 0, 3)) {
            return INVALID_ARGUMENT;
        }
        Mixture mixture = contest.side(player).mixture;
        if (what >= 2 && contest.side(1 - player).mixture.size == 0) {
            return NOT_POSSIBLE;
        }
        if (index >= mixture.size) {
            return NOT_FOUND;
        }
        if (what < 2) {
            return what == 0 ? mixture.allocations[index] : mixture.weights[index];
        }
        scores.measure(contest, player);
        return partOf(what - 2, scores.of(mixture.allocations[index]), scores.weight);
    }

    public int marginal(int player, int field, int amount) {
        if (!isPlayer(player) || !contest.hasField(field) || !isIn(amount, 0, MOST_RESOURCES)) {
            return INVALID_ARGUMENT;
        }
        Mixture mixture = contest.side(player).mixture;
        int sum = 0;
        for (int index = 0; index < mixture.size; index++) {
            if (contest.amountIn(field, mixture.allocations[index]) == amount) {
                sum += mixture.weights[index];
            }
        }
        return sum;
    }

    public int mean(int player, int field, int part) {
        if (!isPlayer(player) || !contest.hasField(field) || !isPart(part)) {
            return INVALID_ARGUMENT;
        }
        Mixture mixture = contest.side(player).mixture;
        if (mixture.size == 0) {
            return NOT_POSSIBLE;
        }
        int sum = 0;
        for (int index = 0; index < mixture.size; index++) {
            sum += mixture.weights[index] * contest.amountIn(field, mixture.allocations[index]);
        }
        return partOf(part, sum, mixture.weight());
    }

    // ---- gains

    public int expected(int part) {
        if (!isPart(part)) {
            return INVALID_ARGUMENT;
        }
        if (contest.lacksMixture()) {
            return NOT_POSSIBLE;
        }
        Mixture own = contest.side(0).mixture;
        scores.measure(contest, 0);
        return partOf(part, scores.ofMixture(own), scores.weight * own.weight());
    }

    public int reply(int player, int what) {
        if (!isPlayer(player) || !isIn(what, 0, 3)) {
            return INVALID_ARGUMENT;
        }
        if (contest.side(1 - player).mixture.size == 0) {
            return NOT_POSSIBLE;
        }
        scores.measure(contest, player);
        firstReply.find(freshList(player), scores);
        if (firstReply.many == 0) {
            return NOT_POSSIBLE;
        }
        switch (what) {
            case 0:
                return firstReply.allocation;
            case 3:
                return firstReply.many;
            default:
                return partOf(what - 1, firstReply.score, scores.weight);
        }
    }

    public int could(int player, int part) {
        if (!isPlayer(player) || !isPart(part)) {
            return INVALID_ARGUMENT;
        }
        if (contest.lacksMixture()) {
            return NOT_POSSIBLE;
        }
        Mixture own = contest.side(player).mixture;
        int ownWeight = own.weight();
        scores.measure(contest, player);
        firstReply.find(freshList(player), scores);
        int more = firstReply.score * ownWeight - scores.ofMixture(own);
        return partOf(part, more, scores.weight * ownWeight);
    }

    public int count(int what) {
        if (isIn(what, 20, 19 + contest.fields)) {
            return contest.values[what - 20];
        }
        if (isIn(what, 30, 29 + contest.fields)) {
            return contest.side(0).bounds[what - 30];
        }
        if (isIn(what, 40, 39 + contest.fields)) {
            return contest.side(1).bounds[what - 40];
        }
        switch (what) {
            case 0:
                return contest.fields;
            case 1:
                return contest.sumOfValues();
            case 2:
                return contest.rule;
            case 3:
            case 4:
                return contest.side(what - 3).resources;
            case 5:
            case 6:
                return contest.side(what - 5).mixture.size;
            case 7:
            case 8:
                return contest.side(what - 7).mixture.weight();
            case 9:
                return history.size;
            case 10:
                return text.length;
            default:
                return INVALID_ARGUMENT;
        }
    }

    public int undo() {
        if (history.size == 0) {
            return NOT_POSSIBLE;
        }
        history.restoreLatest(contest);
        return history.size;
    }

    // ---- texts

    public int type(int character) {
        if (!isIn(character, FIRST_SIGN, LAST_SIGN)) {
            return INVALID_ARGUMENT;
        }
        if (text.length >= MOST_SIGNS) {
            return LIMIT_REACHED;
        }
        text.append(character);
        return text.length;
    }

    public int clearText() {
        int before = text.length;
        text.clear();
        return before;
    }

    public int fault(int what) {
        if (!isIn(what, 0, 2)) {
            return INVALID_ARGUMENT;
        }
        draft.copyFrom(contest);
        reader.readInto(draft, text);
        if (reader.reason == NO_FAULT) {
            return NOT_FOUND;
        }
        switch (what) {
            case 0:
                return reader.position;
            case 1:
                return reader.reason;
            default:
                return reader.reason == WRONG_FORM ? reader.cause : NOT_FOUND;
        }
    }

    public int read() {
        draft.copyFrom(contest);
        reader.readInto(draft, text);
        if (reader.reason != NO_FAULT) {
            return NOT_POSSIBLE;
        }
        changeToDraft();
        return contest.sizeOfMixtures();
    }

    // ---- what the calls share

    private static boolean isIn(int number, int least, int most) {
        return number >= least && number <= most;
    }

    private static boolean isPlayer(int player) {
        return isIn(player, 0, 1);
    }

    private static boolean isPart(int part) {
        return isIn(part, 0, 1);
    }

    /** The part 0 (upper) or 1 (lower) of a fraction in lowest terms; the lower number is above 0. */
    private static int partOf(int part, int upper, int lower) {
        int divisor = commonDivisor(Math.abs(upper), lower);
        return part == 0 ? RAISE_OF_UPPER_PARTS + upper / divisor : lower / divisor;
    }

    /** The numbers get at least halved in two steps, so 64 steps are enough for all. */
    private static int commonDivisor(int number, int other) {
        int larger = number;
        int smaller = other;
        for (int step = 0; step < 64 && smaller > 0; step++) {
            int rest = larger % smaller;
            larger = smaller;
            smaller = rest;
        }
        return Math.max(larger, 1);
    }

    private AllocationList freshList(int player) {
        AllocationList list = player == 0 ? firstList : secondList;
        list.fill(contest.side(player), contest.fields);
        return list;
    }

    private boolean isAlwaysBetter(int player, int candidate, int allocation, AllocationList others) {
        boolean gainsMore = false;
        for (int index = 0; index < others.size; index++) {
            int other = others.numbers[index];
            int more = contest.gainOf(player, candidate, other) - contest.gainOf(player, allocation, other);
            if (more < 0) {
                return false;
            }
            gainsMore = gainsMore || more > 0;
        }
        return gainsMore;
    }

    /** Both replies are found before one of them is put: they answer the mixtures ahead of the round. */
    private boolean playRoundInDraft(AllocationList firsts, AllocationList seconds) {
        scores.measure(draft, 0);
        firstReply.find(firsts, scores);
        scores.measure(draft, 1);
        secondReply.find(seconds, scores);
        return draft.side(0).mixture.addOne(firstReply.allocation)
                && draft.side(1).mixture.addOne(secondReply.allocation);
    }

    private void changeToDraft() {
        history.record(contest);
        contest.copyFrom(draft);
    }

    /** The allocations of a mixture with their weights, in order of allocations. */
    private static final class Mixture {
        private int size;
        private final int[] allocations;
        private final int[] weights;

        private Mixture() {
            allocations = new int[MOST_MIXED];
            weights = new int[MOST_MIXED];
            size = 0;
        }

        private void copyFrom(Mixture other) {
            size = other.size;
            for (int index = 0; index < MOST_MIXED; index++) {
                allocations[index] = other.allocations[index];
                weights[index] = other.weights[index];
            }
        }

        /** Where the allocation stands, or would have to stand, to keep the order. */
        private int placeOf(int allocation) {
            int place = 0;
            while (place < size && allocations[place] < allocation) {
                place++;
            }
            return place;
        }

        private boolean standsAt(int place, int allocation) {
            return place < size && allocations[place] == allocation;
        }

        private int weightOf(int allocation) {
            int place = placeOf(allocation);
            return standsAt(place, allocation) ? weights[place] : 0;
        }

        private boolean hasRoomFor(int allocation) {
            return size < MOST_MIXED || weightOf(allocation) > 0;
        }

        /** Changes nothing if there is no room. */
        private void setWeight(int allocation, int weight) {
            int place = placeOf(allocation);
            if (standsAt(place, allocation)) {
                weights[place] = weight;
            } else if (size < MOST_MIXED) {
                openGap(place);
                allocations[place] = allocation;
                weights[place] = weight;
            }
        }

        private void openGap(int place) {
            for (int index = size; index > place; index--) {
                allocations[index] = allocations[index - 1];
                weights[index] = weights[index - 1];
            }
            size++;
        }

        private void remove(int allocation) {
            int place = placeOf(allocation);
            if (!standsAt(place, allocation)) {
                return;
            }
            for (int index = place + 1; index < size; index++) {
                allocations[index - 1] = allocations[index];
                weights[index - 1] = weights[index];
            }
            size--;
        }

        private boolean addOne(int allocation) {
            int weight = weightOf(allocation) + 1;
            if (weight > MOST_WEIGHT || !hasRoomFor(allocation)) {
                return false;
            }
            setWeight(allocation, weight);
            return true;
        }

        private int weight() {
            int sum = 0;
            for (int index = 0; index < size; index++) {
                sum += weights[index];
            }
            return sum;
        }
    }

    /** What one player has in a contest. */
    private static final class Side {
        private int resources;
        private final int[] bounds;
        private final Mixture mixture;

        private Side() {
            resources = FIRST_RESOURCES;
            bounds = new int[MOST_FIELDS];
            mixture = new Mixture();
        }

        private void copyFrom(Side other) {
            resources = other.resources;
            for (int field = 0; field < MOST_FIELDS; field++) {
                bounds[field] = other.bounds[field];
            }
            mixture.copyFrom(other.mixture);
        }

        private void resetBounds() {
            for (int field = 0; field < MOST_FIELDS; field++) {
                bounds[field] = MOST_BOUND;
            }
        }

        private boolean allows(int number, int fields) {
            if (number < 0) {
                return false;
            }
            int digits = number;
            int left = resources;
            for (int field = fields - 1; field >= 0; field--) {
                int amount = digits % 10;
                if (amount > bounds[field] || amount > left) {
                    return false;
                }
                left -= amount;
                digits /= 10;
            }
            return left == 0 && digits == 0;
        }

        private void dropWhatIsNotAllowed(int fields) {
            // From the last one, as a removal moves those behind it.
            for (int index = mixture.size - 1; index >= 0; index--) {
                if (!allows(mixture.allocations[index], fields)) {
                    mixture.remove(mixture.allocations[index]);
                }
            }
        }
    }

    /** All that a change can change, the text aside. */
    private static final class Contest {
        private int fields;
        private int rule;
        private final int[] values;
        private final Side first;
        private final Side second;

        private Contest() {
            values = new int[MOST_FIELDS];
            first = new Side();
            second = new Side();
            fields = FIRST_FIELDS;
            rule = 0;
            startWith(FIRST_FIELDS);
        }

        private void startWith(int many) {
            if (many != fields) {
                first.mixture.size = 0;
                second.mixture.size = 0;
            }
            fields = many;
            for (int field = 0; field < MOST_FIELDS; field++) {
                values[field] = FIRST_VALUE;
            }
            first.resetBounds();
            second.resetBounds();
        }

        private void copyFrom(Contest other) {
            fields = other.fields;
            rule = other.rule;
            for (int field = 0; field < MOST_FIELDS; field++) {
                values[field] = other.values[field];
            }
            first.copyFrom(other.first);
            second.copyFrom(other.second);
        }

        private Side side(int player) {
            return player == 0 ? first : second;
        }

        private boolean hasField(int field) {
            return isIn(field, 0, fields - 1);
        }

        private boolean allows(int player, int number) {
            return side(player).allows(number, fields);
        }

        private boolean lacksMixture() {
            return first.mixture.size == 0 || second.mixture.size == 0;
        }

        private int sizeOfMixtures() {
            return first.mixture.size + second.mixture.size;
        }

        private int sumOfValues() {
            int sum = 0;
            for (int field = 0; field < fields; field++) {
                sum += values[field];
            }
            return sum;
        }

        private int amountIn(int field, int allocation) {
            int digits = allocation;
            for (int behind = fields - 1; behind > field; behind--) {
                digits /= 10;
            }
            return digits % 10;
        }

        /** 1 if the player wins a field with these amounts, -1 if the other one does, 0 if it is a draw. */
        private int outcome(int player, int own, int other) {
            if (own != other) {
                return own > other ? 1 : -1;
            }
            if (rule == 0) {
                return 0;
            }
            return rule - 1 == player ? 1 : -1;
        }

        private int gainOf(int player, int own, int other) {
            int ownDigits = own;
            int otherDigits = other;
            int sum = 0;
            for (int field = fields - 1; field >= 0; field--) {
                sum += values[field] * outcome(player, ownDigits % 10, otherDigits % 10);
                ownDigits /= 10;
                otherDigits /= 10;
            }
            return sum;
        }
    }

    /** The latest states, the oldest one first. */
    private static final class History {
        private int size;
        private final Contest[] states;

        private History() {
            size = 0;
            states = new Contest[MOST_STATES];
            for (int index = 0; index < MOST_STATES; index++) {
                states[index] = new Contest();
            }
        }

        private void record(Contest contest) {
            if (size >= MOST_STATES) {
                dropOldest();
            }
            states[size].copyFrom(contest);
            size++;
        }

        /** The oldest state's object goes to the end, to be written over. */
        private void dropOldest() {
            Contest oldest = states[0];
            for (int index = 1; index < MOST_STATES; index++) {
                states[index - 1] = states[index];
            }
            states[MOST_STATES - 1] = oldest;
            size = MOST_STATES - 1;
        }

        private void restoreLatest(Contest contest) {
            if (size > 0) {
                size--;
                contest.copyFrom(states[size]);
            }
        }
    }

    /** All allocations of one player, in order. */
    private static final class AllocationList {
        private int size;
        private final int[] numbers;

        private AllocationList() {
            size = 0;
            numbers = new int[MOST_ALLOCATIONS];
        }

        /** A number and the sum of its digits leave the same rest by 9, so the numbers between need no look. */
        private void fill(Side side, int fields) {
            int last = side.resources;
            for (int field = 1; field < fields; field++) {
                last *= 10;
            }
            size = 0;
            for (int number = side.resources; number <= last; number += 9) {
                if (size < MOST_ALLOCATIONS && side.allows(number, fields)) {
                    numbers[size] = number;
                    size++;
                }
            }
        }
    }

    /**
     * What each amount in each field gains a player against the mixture of the other one, not yet divided
     * by its weight. Gains add up over the fields, so an allocation needs no look at the mixture again.
     * The numbers stay small: at most 36 (four values of 9) times 1188 (12 weights of 99) for an allocation,
     * and times 1188 again for a mixture.
     */
    private static final class Scores {
        private int fields;
        private int weight;
        /** By field and digit. */
        private final int[][] points;

        private Scores() {
            fields = FIRST_FIELDS;
            weight = 0;
            points = new int[MOST_FIELDS][10];
        }

        private void measure(Contest contest, int player) {
            Mixture other = contest.side(1 - player).mixture;
            fields = contest.fields;
            weight = other.weight();
            for (int field = 0; field < fields; field++) {
                for (int amount = 0; amount < 10; amount++) {
                    points[field][amount] = contest.values[field] * balance(contest, player, field, amount);
                }
            }
        }

        /** The weights of the other mixture's allocations that the amount wins against, less those it loses to. */
        private static int balance(Contest contest, int player, int field, int amount) {
            Mixture other = contest.side(1 - player).mixture;
            int sum = 0;
            for (int index = 0; index < other.size; index++) {
                int against = contest.amountIn(field, other.allocations[index]);
                sum += other.weights[index] * contest.outcome(player, amount, against);
            }
            return sum;
        }

        private int of(int allocation) {
            int digits = allocation;
            int sum = 0;
            for (int field = fields - 1; field >= 0; field--) {
                sum += points[field][digits % 10];
                digits /= 10;
            }
            return sum;
        }

        private int ofMixture(Mixture own) {
            int sum = 0;
            for (int index = 0; index < own.size; index++) {
                sum += own.weights[index] * of(own.allocations[index]);
            }
            return sum;
        }
    }

    /** The best reply that was found last; there was none if not one allocation gained as much. */
    private static final class BestReply {
        private int allocation;
        private int score;
        private int many;

        private BestReply() {
            allocation = 0;
            score = 0;
            many = 0;
        }

        private void find(AllocationList list, Scores scores) {
            many = 0;
            for (int index = 0; index < list.size; index++) {
                int found = scores.of(list.numbers[index]);
                if (many == 0 || found > score) {
                    allocation = list.numbers[index];
                    score = found;
                    many = 1;
                } else if (found == score) {
                    many++;
                }
            }
        }
    }

    private static final class Text {
        private int length;
        private final char[] signs;

        private Text() {
            length = 0;
            signs = new char[MOST_SIGNS];
        }

        private void append(int sign) {
            if (length < MOST_SIGNS) {
                signs[length] = (char) sign;
                length++;
            }
        }

        private void clear() {
            length = 0;
        }

        private int signAt(int position) {
            return position >= 0 && position < length ? signs[position] : NO_SIGN;
        }
    }

    /** Does the parts of a text in a contest, up to the first one that is not possible. */
    private static final class TextReader {
        private int position;
        private int reason;
        private int cause;
        /** The first sign that is not read yet. */
        private int next;
        private int player;
        private int allocation;
        private int weight;

        private TextReader() {
            position = 0;
            reason = NO_FAULT;
            cause = 0;
            next = 0;
            player = 0;
            allocation = 0;
            weight = 0;
        }

        private void readInto(Contest contest, Text text) {
            reason = NO_FAULT;
            next = 0;
            // A part that is possible has signs, so there are fewer parts than signs.
            for (int part = 0; part < MOST_SIGNS && next < text.length && reason == NO_FAULT; part++) {
                position = next;
                reason = readPart(contest, text);
                cause = next - position;
            }
        }

        private int readPart(Contest contest, Text text) {
            if (!readForm(text, contest.fields)) {
                return WRONG_FORM;
            }
            if (weight == 0 || !contest.allows(player, allocation)) {
                return WRONG_CONTENT;
            }
            Mixture mixture = contest.side(player).mixture;
            if (!mixture.hasRoomFor(allocation)) {
                return TOO_MANY;
            }
            mixture.setWeight(allocation, weight);
            return NO_FAULT;
        }

        /** Where this fails, the next sign is the one at which the part breaks off. */
        private boolean readForm(Text text, int fields) {
            player = text.signAt(next) - '0';
            if (!isPlayer(player)) {
                return false;
            }
            next++;
            if (!readSign(text, ':') || !readAllocation(text, fields)) {
                return false;
            }
            weight = 1;
            if (readSign(text, '*') && !readWeight(text)) {
                return false;
            }
            return readSign(text, ';');
        }

        private boolean readSign(Text text, char sign) {
            if (text.signAt(next) != sign) {
                return false;
            }
            next++;
            return true;
        }

        private boolean readAllocation(Text text, int fields) {
            allocation = 0;
            for (int field = 0; field < fields; field++) {
                if (!hasDigit(text)) {
                    return false;
                }
                allocation = allocation * 10 + readDigit(text);
            }
            return true;
        }

        private boolean readWeight(Text text) {
            if (!hasDigit(text)) {
                return false;
            }
            weight = readDigit(text);
            if (hasDigit(text)) {
                weight = weight * 10 + readDigit(text);
            }
            return true;
        }

        private boolean hasDigit(Text text) {
            return isIn(text.signAt(next), '0', '9');
        }

        private int readDigit(Text text) {
            int digit = text.signAt(next) - '0';
            next++;
            return digit;
        }
    }
}
