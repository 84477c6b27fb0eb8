import java.util.function.Supplier;

/** The ranges of all arguments: both ends, just below and just above them, and as far as an int goes. */
public final class RangesTest {
    private static final Boundary TEST = new Boundary("RangesTest");
    private static final int INVALID = Boundary.INVALID;
    private static final int MISSING = Boundary.MISSING;
    private static final int ZERO = Boundary.ZERO;

    /** A call with one argument of it left open. */
    private interface Asked {
        int of(FieldMixtures x, int argument);
    }

    public static void main(String[] args) {
        setNumbers();
        setOfFields();
        allocationsAndBetter();
        mixtures();
        numbersOfMixtures();
        gains();
        texts();
        what();
        numbersThatAreAllocations();
        besideAnAllocation();
        TEST.close();
    }

    /** From least to most no argument is refused, and both ends answer what is due; what is outside changes nothing. */
    private static void range(String sentence, Supplier<FieldMixtures> made, int least, int dueAtLeast, int most,
            int dueAtMost, Asked call) {
        TEST.sentence(sentence);
        TEST.due("at " + least, call.of(made.get(), least), dueAtLeast);
        TEST.due("at " + most, call.of(made.get(), most), dueAtMost);
        for (int argument = least; argument <= most; argument++) {
            int got = call.of(made.get(), argument);
            TEST.holds("at " + argument + " no error, but " + got, got > -1000000);
        }
        outside(made, least - 1, call);
        outside(made, most + 1, call);
        outside(made, Integer.MIN_VALUE, call);
        outside(made, Integer.MAX_VALUE, call);
    }

    private static void outside(Supplier<FieldMixtures> made, int argument, Asked call) {
        TEST.refused("at " + argument, made, x -> call.of(x, argument), INVALID);
    }

    /** What is set is seen by count. */
    private static void sets(int least, int most, int what, Asked call) {
        for (int argument = least; argument <= most; argument++) {
            FieldMixtures x = Boundary.busy();
            call.of(x, argument);
            TEST.due("count(" + what + ") of " + argument, x.count(what), argument);
        }
    }

    private static void setNumbers() {
        range("2 fields: many: 2 to 4", Boundary::busy, 2, 3, 4, 3, (x, many) -> x.fields(many));
        sets(2, 4, 0, (x, many) -> x.fields(many));
        range("3 value: value: 1 to 9", Boundary::busy, 1, 1, 9, 1, (x, value) -> x.value(0, value));
        sets(1, 9, 20, (x, value) -> x.value(0, value));
        range("4 resources: player: 0 or 1", Boundary::busy, 0, 2, 1, 2, (x, player) -> x.resources(player, 4));
        range("4 resources: resources: 0 to 8", Boundary::busy, 0, 0, 8, 0, (x, many) -> x.resources(0, many));
        sets(0, 8, 3, (x, many) -> x.resources(0, many));
        sets(0, 8, 4, (x, many) -> x.resources(1, many));
        range("5 bound: player: 0 or 1", Boundary::busy, 0, 2, 1, 2, (x, player) -> x.bound(player, 0, 8));
        range("5 bound: bound: 0 to 8", Boundary::busy, 0, 1, 8, 2, (x, bound) -> x.bound(0, 0, bound));
        sets(0, 8, 30, (x, bound) -> x.bound(0, 0, bound));
        sets(0, 8, 42, (x, bound) -> x.bound(1, 2, bound));
        range("6 tie: rule: 0 to 2", Boundary::busy, 0, 1, 2, 1, (x, rule) -> x.tie(rule));
        sets(0, 2, 2, (x, rule) -> x.tie(rule));
    }

    private static void setOfFields() {
        for (int fields = 2; fields <= 4; fields++) {
            int many = fields;
            String range = ": field: 0 to the number of fields less 1, of " + fields;
            Supplier<FieldMixtures> made = () -> Boundary.busyWith(many);
            range("3 value" + range, made, 0, 1, many - 1, 7, (x, field) -> x.value(field, 5));
            range("5 bound" + range, made, 0, 2, many - 1, 2, (x, field) -> x.bound(0, field, 8));
            // 13 and 40: the last field gives 13 up, and the first one 40, if there are two.
            range("5 bound of the player 1" + range, made, 0, many == 2 ? 1 : 2, many - 1, 1,
                    (x, field) -> x.bound(1, field, 2));
            // 4*3 and 22*99: nothing in the first field but of two fields 2.
            range("14 marginal" + range, made, 0, many == 2 ? 3 : 102, many - 1, 0,
                    (x, field) -> x.marginal(0, field, 0));
            range("15 mean" + range, made, 0, many == 2 ? 33 + ZERO : ZERO, many - 1, 35 + ZERO,
                    (x, field) -> x.mean(0, field, 0));
        }
    }

    private static void allocationsAndBetter() {
        range("7 allocations: player: 0 or 1", Boundary::busy, 0, 15, 1, 15, (x, player) -> x.allocations(player, -1));
        range("9 better: player: 0 or 1", FieldMixtures::new, 0, 13, 1, 13, (x, player) -> x.better(player, 4));
        TEST.sentence("7 allocations: index: -1: how many there are; 0 for the first one, and so on");
        TEST.due("at -1", Boundary.busy().allocations(0, -1), 15);
        TEST.due("at 0", Boundary.busy().allocations(0, 0), 4);
        TEST.due("at 14", Boundary.busy().allocations(0, 14), 400);
        TEST.sentence("7 allocations: INVALID_ARGUMENT if index is below -1");
        outside(Boundary::busy, -2, (x, index) -> x.allocations(0, index));
        outside(Boundary::busy, -3, (x, index) -> x.allocations(1, index));
        outside(Boundary::busy, Integer.MIN_VALUE, (x, index) -> x.allocations(0, index));
        TEST.sentence("7 allocations: NOT_FOUND if there are not so many");
        TEST.refused("at 15", Boundary::busy, x -> x.allocations(0, 15), MISSING);
        TEST.refused("at 16", Boundary::busy, x -> x.allocations(1, 16), MISSING);
        TEST.refused("far", Boundary::busy, x -> x.allocations(0, Integer.MAX_VALUE), MISSING);
    }

    private static void mixtures() {
        range("10 put: player: 0 or 1", Boundary::busy, 0, 3, 1, 0, (x, player) -> x.put(player, 4, 1));
        range("10 put: weight: 1 to 99", Boundary::busy, 1, 3, 99, 3, (x, weight) -> x.put(0, 4, weight));
        range("10 put: weight: 1 to 99, of a new one", Boundary::busy, 1, 0, 99, 0,
                (x, weight) -> x.put(1, 4, weight));
        for (int weight = 1; weight <= 99; weight++) {
            FieldMixtures x = new FieldMixtures();
            x.put(0, 4, weight);
            TEST.due("the weight is there", x.mixtureOf(0, 0, 1), weight);
        }
        range("11 take: player: 0 or 1", () -> bothMix4(), 0, 8, 1, 9, (x, player) -> x.take(player, 4));
        range("12 round: many: 1 to 20", () -> Boundary.duel(1, 1), 1, 2, 20, 2, (x, many) -> x.round(many));
        for (int many = 1; many <= 20; many++) {
            FieldMixtures x = Boundary.duel(1, 2);
            x.round(many);
            TEST.due("rounds for the player 0", x.count(7), 1 + many);
            TEST.due("rounds for the player 1", x.count(8), 2 + many);
        }
    }

    private static FieldMixtures bothMix4() {
        FieldMixtures x = new FieldMixtures();
        x.put(0, 4, 8);
        x.put(1, 4, 9);
        return x;
    }

    private static void numbersOfMixtures() {
        range("13 mixtureOf: player: 0 or 1", Boundary::busy, 0, 4, 1, 13, (x, player) -> x.mixtureOf(player, 0, 0));
        range("13 mixtureOf: what: 0 to 3", Boundary::busy, 0, 4, 3, 1, (x, what) -> x.mixtureOf(0, 0, what));
        TEST.sentence("13 mixtureOf: index: 0 for the first one, and so on");
        TEST.due("at 0", Boundary.busy().mixtureOf(0, 0, 0), 4);
        TEST.due("at 1", Boundary.busy().mixtureOf(0, 1, 0), 220);
        TEST.sentence("13 mixtureOf: INVALID_ARGUMENT if index is negative");
        for (int what = 0; what <= 3; what++) {
            int asked = what;
            outside(Boundary::busy, -1, (x, index) -> x.mixtureOf(0, index, asked));
            outside(Boundary::busy, Integer.MIN_VALUE, (x, index) -> x.mixtureOf(1, index, asked));
            TEST.sentence("13 mixtureOf: NOT_FOUND if there are not so many");
            TEST.refused("at 2", Boundary::busy, x -> x.mixtureOf(0, 2, asked), MISSING);
            TEST.refused("far", Boundary::busy, x -> x.mixtureOf(1, Integer.MAX_VALUE, asked), MISSING);
        }
        range("14 marginal: player: 0 or 1", Boundary::busy, 0, 3, 1, 5, (x, player) -> x.marginal(player, 0, 0));
        range("14 marginal: amount: 0 to 8", RangesTest::zeroAndEight, 0, 6, 8, 7,
                (x, amount) -> x.marginal(0, 0, amount));
        // (4 * 0 * 3 + 2 * 99) / 102 is 33/17; 2 * 4 / 7.
        range("15 mean: player: 0 or 1", Boundary::busy, 0, ZERO + 33, 1, ZERO + 8,
                (x, player) -> x.mean(player, 0, 0));
        range("15 mean: part: 0 or 1", Boundary::busy, 0, ZERO + 33, 1, 17, (x, part) -> x.mean(0, 0, part));
    }

    private static FieldMixtures zeroAndEight() {
        FieldMixtures x = new FieldMixtures();
        x.resources(0, 8);
        x.put(0, 800, 7);
        x.put(0, 80, 6);
        return x;
    }

    /**
     * By the rule 1, with the values 1, 1, 7: 004 gains 7 and 7 against 013 and 400, 220 gains -5 and 7: that is
     * (3 * 49 - 99 * 11) / 714 = -157/119. 013 gains most, 9 and 7: 59/7. The player 1 gains most by 031 and 301:
     * -7 and 7 against 004 and 220: 672/102 = 112/17.
     */
    private static void gains() {
        range("16 expected: part: 0 or 1", Boundary::busy, 0, ZERO - 157, 1, 119, (x, part) -> x.expected(part));
        range("17 reply: player: 0 or 1", Boundary::busy, 0, 13, 1, 31, (x, player) -> x.reply(player, 0));
        range("17 reply: what: 0 to 3", Boundary::busy, 0, 13, 3, 1, (x, what) -> x.reply(0, what));
        range("17 reply: what: 0 to 3, of the player 1", Boundary::busy, 0, 31, 3, 2, (x, what) -> x.reply(1, what));
        TEST.due("reply(0, 1)", Boundary.busy().reply(0, 1), ZERO + 59);
        TEST.due("reply(0, 2)", Boundary.busy().reply(0, 2), 7);
        TEST.due("reply(1, 1)", Boundary.busy().reply(1, 1), ZERO + 112);
        TEST.due("reply(1, 2)", Boundary.busy().reply(1, 2), 17);
        range("18 could: player: 0 or 1", Boundary::busy, 0, ZERO + 1160, 1, ZERO + 627,
                (x, player) -> x.could(player, 0));
        range("18 could: part: 0 or 1", Boundary::busy, 0, ZERO + 1160, 1, 119, (x, part) -> x.could(0, part));
    }

    private static void texts() {
        range("21 type: character: 32 to 126", Boundary::busy, 32, 13, 126, 13, (x, sign) -> x.type(sign));
        range("21 type: character: 32 to 126, at first", FieldMixtures::new, 32, 1, 126, 1, (x, sign) -> x.type(sign));
        TEST.refused("a sign of more than 16 bits", Boundary::busy, x -> x.type(65536 + 48), INVALID);
        range("23 fault: what: 0 to 2", Boundary::busy, 0, 9, 2, 3, (x, what) -> x.fault(what));
    }

    /** All numbers near those that count knows, for each number of fields. */
    private static void what() {
        for (int fields = 2; fields <= 4; fields++) {
            int many = fields;
            TEST.sentence("19 count: 0 to 10; 20, 30 and 40 plus a field, of " + fields);
            Supplier<FieldMixtures> made = () -> Boundary.busyWith(many);
            int[] due = {many, many + 6, 1, 4, 4, 2, 2, 102, 7, 4, 3};
            for (int what = 0; what <= 10; what++) {
                TEST.due("count(" + what + ")", made.get().count(what), due[what]);
            }
            for (int what = 11; what <= 60; what++) {
                int field = what % 10;
                int asked = what;
                if (what < 20 || what >= 50 || field >= many) {
                    TEST.refused("count(" + what + ")", made, x -> x.count(asked), INVALID);
                } else {
                    int value = field == many - 1 ? 7 : 1;
                    TEST.due("count(" + what + ")", made.get().count(what), what < 30 ? value : 8);
                }
            }
            for (int asked : new int[] {-1, -20, 100, 120, 1020, Integer.MIN_VALUE, Integer.MAX_VALUE}) {
                TEST.refused("count(" + asked + ")", made, x -> x.count(asked), INVALID);
            }
        }
    }

    /** Every number up to beyond the largest one of so many digits, with resources and bounds. */
    private static void numbersThatAreAllocations() {
        everyNumber(2, 8, 8, 8);
        everyNumber(2, 8, 7, 1);
        everyNumber(2, 8, 3, 4);
        everyNumber(2, 0, 0, 0);
        everyNumber(3, 4, 8, 8, 8);
        everyNumber(3, 8, 2, 0, 7);
        everyNumber(3, 1, 1, 1, 1);
        everyNumber(4, 8, 8, 8, 8, 8);
        everyNumber(4, 3, 1, 0, 2, 3);
    }

    private static FieldMixtures bounded(int player, int resources, int[] bounds) {
        FieldMixtures x = new FieldMixtures();
        x.fields(bounds.length);
        x.resources(player, resources);
        for (int field = 0; field < bounds.length; field++) {
            x.bound(player, field, bounds[field]);
        }
        return x;
    }

    /** By its words: a digit for each field, none above its bound, all of the resources. */
    private static boolean isAllocation(int number, int resources, int[] bounds) {
        if (number < 0 || String.valueOf(number).length() > bounds.length) {
            return false;
        }
        String digits = String.format("%0" + bounds.length + "d", number);
        int sum = 0;
        for (int field = 0; field < bounds.length; field++) {
            int amount = digits.charAt(field) - '0';
            if (amount > bounds[field]) {
                return false;
            }
            sum += amount;
        }
        return sum == resources;
    }

    private static void everyNumber(int fields, int resources, int... bounds) {
        TEST.sentence("a number is no allocation of the player: INVALID_ARGUMENT, of " + fields + ", " + resources);
        int end = (int) Math.pow(10, fields) + 120;
        int found = 0;
        FieldMixtures first = bounded(0, resources, bounds);
        FieldMixtures second = bounded(1, resources, bounds);
        int free = first.allocations(1, 0);
        for (int number = -120; number <= end; number++) {
            boolean is = isAllocation(number, resources, bounds);
            if (is) {
                TEST.due("allocations(0, " + found + ")", first.allocations(0, found), number);
                TEST.due("allocations(1, " + found + ")", second.allocations(1, found), number);
                found++;
            }
            int calls = number % 60;
            if (calls == 0) {
                first = bounded(0, resources, bounds);
                second = bounded(1, resources, bounds);
            }
            sameSide("gains(" + number + ", )", first.gains(number, free), is);
            sameSide("gains( , " + number + ")", second.gains(free, number), is);
            sameSide("better(0, " + number + ")", first.better(0, number), is);
            sameSide("better(1, " + number + ")", second.better(1, number), is);
            sameSide("put(0, " + number + ")", first.put(0, number, 1), is);
            sameSide("put(1, " + number + ")", second.put(1, number, 1), is);
            sameSide("take(0, " + number + ")", first.take(0, number), is);
            sameSide("take(1, " + number + ")", second.take(1, number), is);
        }
        TEST.due("how many", bounded(0, resources, bounds).allocations(0, -1), found);
        TEST.due("no more", bounded(1, resources, bounds).allocations(1, found), MISSING);
    }

    private static void sameSide(String call, int got, boolean is) {
        TEST.holds(call + " answered " + got, is != (got == INVALID));
    }

    /** One more, one less, one beyond a bound, a digit too many; of the other player. */
    private static void besideAnAllocation() {
        TEST.sentence("a number is no allocation of the player: INVALID_ARGUMENT");
        Supplier<FieldMixtures> made = () -> {
            FieldMixtures x = Boundary.busy();
            x.resources(1, 5);
            x.bound(0, 0, 2);
            x.put(1, 5, 1);
            return x;
        };
        TEST.due("at the bound", made.get().put(0, 202, 1), 0);
        for (int number : new int[] {-4, -13, 3, 5, 14, 12, 310, 301, 400, 1003, 4000, 10000003, 2147483647}) {
            TEST.refused("gains(" + number + ", 5)", made, x -> x.gains(number, 5), INVALID);
            TEST.refused("better(0, " + number + ")", made, x -> x.better(0, number), INVALID);
            TEST.refused("put(0, " + number + ", 1)", made, x -> x.put(0, number, 1), INVALID);
            TEST.refused("take(0, " + number + ")", made, x -> x.take(0, number), INVALID);
        }
        for (int number : new int[] {-5, -2147483648, 4, 6, 13, 112, 400, 1004, 5000}) {
            TEST.refused("gains(4, " + number + ")", made, x -> x.gains(4, number), INVALID);
            TEST.refused("better(1, " + number + ")", made, x -> x.better(1, number), INVALID);
            TEST.refused("put(1, " + number + ", 1)", made, x -> x.put(1, number, 1), INVALID);
            TEST.refused("take(1, " + number + ")", made, x -> x.take(1, number), INVALID);
        }
        TEST.refused("gains(5, 4), both wrong", made, x -> x.gains(5, 4), INVALID);
    }
}
