import java.util.function.Supplier;

/**
 * Refused calls, promise by promise: what they answer, which of several errors comes first, and that they change
 * nothing, the history and the text included.
 */
public final class RefusedTest {
    private static final Boundary TEST = new Boundary("RefusedTest");
    private static final int INVALID = Boundary.INVALID;
    private static final int IMPOSSIBLE = Boundary.IMPOSSIBLE;
    private static final int LIMIT = Boundary.LIMIT;
    private static final int MISSING = Boundary.MISSING;
    private static final int LEAST = Integer.MIN_VALUE;
    private static final int MOST = Integer.MAX_VALUE;

    public static void main(String[] args) {
        constants();
        contest();
        allocations();
        put();
        take();
        round();
        mixtureOf();
        marginalAndMean();
        expected();
        reply();
        could();
        undoAndTexts();
        read();
        fullHistoryStays();
        TEST.close();
    }

    private static void constants() {
        TEST.sentence("The constants");
        TEST.due("INVALID_ARGUMENT", FieldMixtures.INVALID_ARGUMENT, -1000001);
        TEST.due("NOT_POSSIBLE", FieldMixtures.NOT_POSSIBLE, -1000002);
        TEST.due("LIMIT_REACHED", FieldMixtures.LIMIT_REACHED, -1000003);
        TEST.due("NOT_FOUND", FieldMixtures.NOT_FOUND, -1000004);
    }

    private static FieldMixtures busy() {
        return Boundary.busy();
    }

    /** One argument wrong and all wrong: of several wrong ones it is the same error. */
    private static void contest() {
        TEST.sentence("2 to 6: INVALID_ARGUMENT if an argument is out of range; that changes nothing");
        for (int many : new int[] {LEAST, -1, 0, 1, 5, MOST}) {
            TEST.refused("fields(" + many + ")", RefusedTest::busy, x -> x.fields(many), INVALID);
        }
        int[][] values = {{-1, 5}, {3, 5}, {1, 0}, {1, 10}, {1, -1}, {-1, 0}, {3, 10}, {LEAST, MOST}, {MOST, LEAST}};
        for (int[] value : values) {
            TEST.refused("value(" + value[0] + ", " + value[1] + ")", RefusedTest::busy,
                    x -> x.value(value[0], value[1]), INVALID);
        }
        int[][] resources = {{-1, 5}, {2, 5}, {0, -1}, {1, 9}, {2, 9}, {-1, -1}, {LEAST, 0}, {MOST, 0}, {0, MOST}};
        for (int[] one : resources) {
            TEST.refused("resources(" + one[0] + ", " + one[1] + ")", RefusedTest::busy,
                    x -> x.resources(one[0], one[1]), INVALID);
        }
        int[][] bounds = {{-1, 0, 1}, {2, 0, 1}, {0, -1, 1}, {1, 3, 1}, {0, 0, -1}, {1, 0, 9}, {2, 3, 9}, {-1, -1, -1},
            {0, 3, 0}, {1, 2, LEAST}, {MOST, LEAST, MOST}};
        for (int[] one : bounds) {
            TEST.refused("bound(" + one[0] + ", " + one[1] + ", " + one[2] + ")", RefusedTest::busy,
                    x -> x.bound(one[0], one[1], one[2]), INVALID);
        }
        for (int rule : new int[] {LEAST, -1, 3, MOST}) {
            TEST.refused("tie(" + rule + ")", RefusedTest::busy, x -> x.tie(rule), INVALID);
        }
    }

    private static void allocations() {
        TEST.sentence("7: INVALID_ARGUMENT rather than NOT_FOUND");
        int[][] wrong = {{-1, 0}, {2, 0}, {-1, 15}, {2, 99}, {0, -2}, {2, -2}, {-1, -1}, {2, -1}, {LEAST, MOST}};
        for (int[] one : wrong) {
            TEST.refused("allocations(" + one[0] + ", " + one[1] + ")", RefusedTest::busy,
                    x -> x.allocations(one[0], one[1]), INVALID);
        }
        TEST.refused("allocations(0, -2) of none", () -> Boundary.without(0), x -> x.allocations(0, -2), INVALID);
        TEST.refused("allocations(0, 0) of none", () -> Boundary.without(0), x -> x.allocations(0, 0), MISSING);
        TEST.sentence("8: INVALID_ARGUMENT if one of both is none");
        int[][] pairs = {{5, 4}, {4, 5}, {5, 5}, {-4, 4}, {4, -4}, {1003, 4}, {4, 1003}, {LEAST, 4}, {4, MOST}};
        for (int[] one : pairs) {
            TEST.refused("gains(" + one[0] + ", " + one[1] + ")", RefusedTest::busy, x -> x.gains(one[0], one[1]),
                    INVALID);
        }
        TEST.refused("gains of no allocations 0", () -> Boundary.without(0), x -> x.gains(4, 4), INVALID);
        TEST.refused("gains of no allocations 1", () -> Boundary.without(1), x -> x.gains(4, 4), INVALID);
        TEST.sentence("9: INVALID_ARGUMENT rather than NOT_FOUND");
        int[][] better = {{-1, 4}, {2, 4}, {0, 5}, {1, 3}, {2, 5}, {0, -4}, {1, LEAST}, {MOST, MOST}};
        for (int[] one : better) {
            TEST.refused("better(" + one[0] + ", " + one[1] + ")", RefusedTest::busy, x -> x.better(one[0], one[1]),
                    INVALID);
            TEST.refused("better(" + one[0] + ", " + one[1] + ") against none", () -> Boundary.without(1),
                    x -> x.better(one[0], one[1]), INVALID);
        }
        TEST.refused("better(0, 112)", FieldMixtures::new, x -> x.better(0, 112), MISSING);
        TEST.refused("better(0, 4) against none", () -> Boundary.without(1), x -> x.better(0, 4), MISSING);
        TEST.refused("better(0, 4) of none against none", () -> {
            FieldMixtures x = Boundary.without(1);
            x.bound(0, 0, 0);
            x.bound(0, 1, 0);
            x.bound(0, 2, 3);
            return x;
        }, x -> x.better(0, 4), INVALID);
    }

    private static FieldMixtures full() {
        FieldMixtures x = Boundary.fill(new FieldMixtures(), 0, 12, 7);
        return Boundary.write(Boundary.fill(x, 1, 12, 99), "0:301;");
    }

    private static void put() {
        TEST.sentence("10: INVALID_ARGUMENT rather than LIMIT_REACHED");
        int[][] wrong = {{-1, 4, 1}, {2, 4, 1}, {-1, 301, 1}, {2, 301, 1}, {0, 5, 1}, {1, 3, 1}, {0, -301, 1},
            {0, 4, 0}, {0, 4, 100}, {0, 301, 0}, {1, 301, 100}, {0, 301, -1}, {2, 5, 0}, {0, 5, 100},
            {LEAST, LEAST, LEAST}, {MOST, MOST, MOST}, {0, 301, MOST}, {1, 301, LEAST}};
        for (int[] one : wrong) {
            String call = "put(" + one[0] + ", " + one[1] + ", " + one[2] + ")";
            TEST.refused(call, RefusedTest::busy, x -> x.put(one[0], one[1], one[2]), INVALID);
            TEST.refused(call + " of 12", RefusedTest::full, x -> x.put(one[0], one[1], one[2]), INVALID);
        }
        TEST.sentence("10: LIMIT_REACHED if it is not there, and there are 12");
        for (int player = 0; player < 2; player++) {
            int p = player;
            for (int number : new int[] {301, 310, 400}) {
                TEST.refused("put( , " + number + ", 1)", RefusedTest::full, x -> x.put(p, number, 1), LIMIT);
                TEST.refused("put( , " + number + ", 99)", RefusedTest::full, x -> x.put(p, number, 99), LIMIT);
            }
        }
    }

    private static void take() {
        TEST.sentence("11: INVALID_ARGUMENT rather than NOT_POSSIBLE");
        int[][] wrong = {{-1, 4}, {2, 4}, {2, 13}, {0, 5}, {1, 3}, {0, -4}, {1, 1003}, {LEAST, 4}, {0, MOST}};
        for (int[] one : wrong) {
            String call = "take(" + one[0] + ", " + one[1] + ")";
            TEST.refused(call, RefusedTest::busy, x -> x.take(one[0], one[1]), INVALID);
            TEST.refused(call + " of none", FieldMixtures::new, x -> x.take(one[0], one[1]), INVALID);
            TEST.refused(call + " of 12", RefusedTest::full, x -> x.take(one[0], one[1]), INVALID);
        }
        TEST.sentence("11: NOT_POSSIBLE if it is not there");
        TEST.refused("between two", RefusedTest::busy, x -> x.take(0, 13), IMPOSSIBLE);
        TEST.refused("behind all", RefusedTest::busy, x -> x.take(0, 400), IMPOSSIBLE);
        TEST.refused("before all", RefusedTest::busy, x -> x.take(1, 4), IMPOSSIBLE);
        TEST.refused("that the other player has", RefusedTest::busy, x -> x.take(0, 13), IMPOSSIBLE);
        TEST.refused("of none", FieldMixtures::new, x -> x.take(1, 4), IMPOSSIBLE);
        TEST.refused("of 12", RefusedTest::full, x -> x.take(1, 400), IMPOSSIBLE);
    }

    /** The mixture of one player is full, and a reply of his would be the 13th; the other one has none. */
    private static FieldMixtures fullAgainstNone(int player) {
        FieldMixtures x = Boundary.fill(new FieldMixtures(), player, 12, 99);
        x.value(0, 9);
        return x;
    }

    private static FieldMixtures fullAgainst4(int player) {
        FieldMixtures x = fullAgainstNone(player);
        x.take(player, 112);
        x.put(player, 400, 1);
        x.put(1 - player, 4, 50);
        return x;
    }

    private static void round() {
        for (int many : new int[] {LEAST, -1, 0, 21, 22, MOST}) {
            TEST.sentence("12: INVALID_ARGUMENT rather than NOT_POSSIBLE");
            TEST.refused("round(" + many + ") of none", FieldMixtures::new, x -> x.round(many), INVALID);
            TEST.refused("round(" + many + ") of one", () -> Boundary.without(0), x -> x.round(many), INVALID);
            TEST.refused("round(" + many + ") against none", () -> fullAgainstNone(0), x -> x.round(many), INVALID);
            TEST.sentence("12: INVALID_ARGUMENT rather than LIMIT_REACHED");
            TEST.refused("round(" + many + ") of 12", () -> fullAgainst4(0), x -> x.round(many), INVALID);
            TEST.refused("round(" + many + ") of 12, 1", () -> fullAgainst4(1), x -> x.round(many), INVALID);
            TEST.refused("round(" + many + ") of 99", () -> Boundary.duel(99, 99), x -> x.round(many), INVALID);
            TEST.sentence("12: INVALID_ARGUMENT if many is out of range");
            TEST.refused("round(" + many + ")", RefusedTest::busy, x -> x.round(many), INVALID);
        }
        for (int many : new int[] {1, 2, 20}) {
            for (int player = 0; player < 2; player++) {
                int p = player;
                TEST.sentence("12: NOT_POSSIBLE rather than LIMIT_REACHED");
                TEST.refused("full against none", () -> fullAgainstNone(p), x -> x.round(many), IMPOSSIBLE);
                TEST.refused("none and no allocation", () -> Boundary.without(p), x -> x.round(many), IMPOSSIBLE);
                TEST.sentence("12: LIMIT_REACHED; A call that returns an error changes nothing");
                TEST.refused("full against one", () -> fullAgainst4(p), x -> x.round(many), LIMIT);
            }
        }
        TEST.sentence("12: LIMIT_REACHED changes nothing, of the rounds that were possible either");
        TEST.refused("19 of 20 would be", () -> Boundary.duel(80, 1), x -> x.round(20), LIMIT);
        TEST.refused("19 of 20 would be, 1", () -> Boundary.duel(1, 80), x -> x.round(20), LIMIT);
        TEST.refused("1 of 2 would be", () -> Boundary.duel(98, 97), x -> x.round(2), LIMIT);
    }

    private static void mixtureOf() {
        int[][] wrong = {{-1, 0, 0}, {2, 0, 0}, {0, -1, 0}, {0, -1, 2}, {1, LEAST, 3}, {0, 0, -1}, {0, 0, 4}, {2, 5, 2},
            {-1, 5, 1}, {0, 5, 4}, {1, 12, -1}, {2, -1, 4}, {0, MOST, 4}, {MOST, MOST, 2}};
        for (int[] one : wrong) {
            String call = "mixtureOf(" + one[0] + ", " + one[1] + ", " + one[2] + ")";
            TEST.sentence("13: INVALID_ARGUMENT rather than NOT_POSSIBLE and NOT_FOUND");
            TEST.refused(call, RefusedTest::busy, x -> x.mixtureOf(one[0], one[1], one[2]), INVALID);
            TEST.refused(call + " of none", FieldMixtures::new, x -> x.mixtureOf(one[0], one[1], one[2]), INVALID);
        }
        for (int player = 0; player < 2; player++) {
            int p = player;
            Supplier<FieldMixtures> alone = () -> fullAgainstNone(p);
            for (int what = 2; what <= 3; what++) {
                int asked = what;
                TEST.sentence("13: NOT_POSSIBLE rather than NOT_FOUND");
                TEST.refused("behind the last one", alone, x -> x.mixtureOf(p, 12, asked), IMPOSSIBLE);
                TEST.refused("far", alone, x -> x.mixtureOf(p, MOST, asked), IMPOSSIBLE);
                TEST.refused("both have none", FieldMixtures::new, x -> x.mixtureOf(p, 0, asked), IMPOSSIBLE);
                TEST.sentence("13: NOT_POSSIBLE for 2 and 3 if the other mixture has none");
                TEST.refused("the first one", alone, x -> x.mixtureOf(p, 0, asked), IMPOSSIBLE);
                TEST.sentence("13: NOT_FOUND if there are not so many");
                TEST.refused("of none", alone, x -> x.mixtureOf(1 - p, 0, asked), MISSING);
                TEST.refused("of two", RefusedTest::busy, x -> x.mixtureOf(p, 2, asked), MISSING);
                TEST.refused("of 12", RefusedTest::full, x -> x.mixtureOf(p, 12, asked), MISSING);
            }
            for (int what = 0; what <= 1; what++) {
                int asked = what;
                TEST.sentence("13: NOT_FOUND for 0 and 1, whatever the other one has");
                TEST.refused("of 12", alone, x -> x.mixtureOf(p, 12, asked), MISSING);
                TEST.refused("of none", alone, x -> x.mixtureOf(1 - p, 0, asked), MISSING);
                TEST.refused("both have none", FieldMixtures::new, x -> x.mixtureOf(p, 0, asked), MISSING);
            }
        }
    }

    private static void marginalAndMean() {
        TEST.sentence("14: INVALID_ARGUMENT if an argument is out of range");
        int[][] wrong = {{-1, 0, 0}, {2, 0, 0}, {0, -1, 0}, {1, 3, 0}, {0, 0, -1}, {1, 0, 9}, {2, 3, 9},
            {LEAST, LEAST, LEAST}, {MOST, MOST, MOST}};
        for (int[] one : wrong) {
            String call = "marginal(" + one[0] + ", " + one[1] + ", " + one[2] + ")";
            TEST.refused(call, RefusedTest::busy, x -> x.marginal(one[0], one[1], one[2]), INVALID);
            TEST.refused(call + " of none", FieldMixtures::new, x -> x.marginal(one[0], one[1], one[2]), INVALID);
        }
        TEST.sentence("15: INVALID_ARGUMENT rather than NOT_POSSIBLE");
        int[][] means = {{-1, 0, 0}, {2, 0, 1}, {0, -1, 0}, {1, 3, 1}, {0, 0, -1}, {1, 2, 2}, {2, 3, 2}, {0, 3, 2},
            {LEAST, LEAST, LEAST}, {MOST, MOST, MOST}};
        for (int[] one : means) {
            String call = "mean(" + one[0] + ", " + one[1] + ", " + one[2] + ")";
            TEST.refused(call, RefusedTest::busy, x -> x.mean(one[0], one[1], one[2]), INVALID);
            TEST.refused(call + " of none", FieldMixtures::new, x -> x.mean(one[0], one[1], one[2]), INVALID);
        }
        TEST.sentence("15: NOT_POSSIBLE if the mixture has none");
        TEST.refused("mean(0, 0, 0)", FieldMixtures::new, x -> x.mean(0, 0, 0), IMPOSSIBLE);
        TEST.refused("mean(1, 2, 1)", () -> fullAgainstNone(0), x -> x.mean(1, 2, 1), IMPOSSIBLE);
        TEST.refused("mean(0, 2, 1)", () -> fullAgainstNone(1), x -> x.mean(0, 2, 1), IMPOSSIBLE);
    }

    private static void expected() {
        for (int part : new int[] {LEAST, -1, 2, 3, MOST}) {
            TEST.sentence("16: INVALID_ARGUMENT rather than NOT_POSSIBLE");
            TEST.refused("expected(" + part + ")", RefusedTest::busy, x -> x.expected(part), INVALID);
            TEST.refused("expected(" + part + ") of none", FieldMixtures::new, x -> x.expected(part), INVALID);
            TEST.refused("expected(" + part + ") of one", () -> fullAgainstNone(0), x -> x.expected(part), INVALID);
        }
        TEST.sentence("16: NOT_POSSIBLE if one of both mixtures has none");
        for (int part = 0; part <= 1; part++) {
            int asked = part;
            TEST.refused("of the player 1", () -> fullAgainstNone(0), x -> x.expected(asked), IMPOSSIBLE);
            TEST.refused("of the player 0", () -> fullAgainstNone(1), x -> x.expected(asked), IMPOSSIBLE);
            TEST.refused("of both", FieldMixtures::new, x -> x.expected(asked), IMPOSSIBLE);
        }
    }

    /** The other player has no mixture, and the player no allocation. */
    private static FieldMixtures neither(int player) {
        FieldMixtures x = Boundary.without(player);
        x.take(1 - player, 4);
        return x;
    }

    private static void reply() {
        TEST.sentence("17: INVALID_ARGUMENT rather than NOT_POSSIBLE");
        int[][] wrong = {{-1, 0}, {2, 0}, {2, 3}, {0, -1}, {1, 4}, {-1, -1}, {2, 4}, {LEAST, LEAST}, {MOST, MOST}};
        for (int[] one : wrong) {
            String call = "reply(" + one[0] + ", " + one[1] + ")";
            TEST.refused(call, RefusedTest::busy, x -> x.reply(one[0], one[1]), INVALID);
            TEST.refused(call + " against none", FieldMixtures::new, x -> x.reply(one[0], one[1]), INVALID);
            TEST.refused(call + " without any", () -> Boundary.without(0), x -> x.reply(one[0], one[1]), INVALID);
            TEST.refused(call + " of neither", () -> neither(1), x -> x.reply(one[0], one[1]), INVALID);
        }
        for (int what = 0; what <= 3; what++) {
            for (int player = 0; player < 2; player++) {
                int p = player;
                int asked = what;
                TEST.sentence("17: NOT_POSSIBLE if the mixture of the other player has none");
                TEST.refused("reply", () -> fullAgainstNone(p), x -> x.reply(p, asked), IMPOSSIBLE);
                TEST.sentence("17: NOT_POSSIBLE if the player has no allocation");
                TEST.refused("reply", () -> Boundary.without(p), x -> x.reply(p, asked), IMPOSSIBLE);
                TEST.sentence("17: NOT_POSSIBLE if both is so");
                TEST.refused("reply", () -> neither(p), x -> x.reply(p, asked), IMPOSSIBLE);
            }
        }
    }

    private static void could() {
        TEST.sentence("18: INVALID_ARGUMENT rather than NOT_POSSIBLE");
        int[][] wrong = {{-1, 0}, {2, 0}, {2, 1}, {0, -1}, {1, 2}, {-1, 2}, {2, -1}, {LEAST, LEAST}, {MOST, MOST}};
        for (int[] one : wrong) {
            String call = "could(" + one[0] + ", " + one[1] + ")";
            TEST.refused(call, RefusedTest::busy, x -> x.could(one[0], one[1]), INVALID);
            TEST.refused(call + " of none", FieldMixtures::new, x -> x.could(one[0], one[1]), INVALID);
            TEST.refused(call + " of one", () -> fullAgainstNone(0), x -> x.could(one[0], one[1]), INVALID);
        }
        TEST.sentence("18: NOT_POSSIBLE if one of both mixtures has none");
        for (int part = 0; part <= 1; part++) {
            for (int player = 0; player < 2; player++) {
                int p = player;
                int asked = part;
                TEST.refused("of the other player", () -> fullAgainstNone(p), x -> x.could(p, asked), IMPOSSIBLE);
                TEST.refused("of the player", () -> fullAgainstNone(1 - p), x -> x.could(p, asked), IMPOSSIBLE);
                TEST.refused("of both", FieldMixtures::new, x -> x.could(p, asked), IMPOSSIBLE);
                TEST.refused("without any", () -> Boundary.without(p), x -> x.could(p, asked), IMPOSSIBLE);
            }
        }
    }

    private static void undoAndTexts() {
        TEST.sentence("20: NOT_POSSIBLE if it is empty");
        TEST.refused("undo()", () -> Boundary.withText("0:004;1"), x -> x.undo(), IMPOSSIBLE);
        Supplier<FieldMixtures> full = () -> Boundary.write(Boundary.duel(5, 6), "0:10*7;".repeat(11) + "1:0");
        TEST.due("a full text", full.get().count(10), 80);
        for (int sign : new int[] {LEAST, -1, 0, 10, 31, 127, 128, 255, 256 + 48, 65536 + 48, MOST}) {
            TEST.sentence("21: INVALID_ARGUMENT if character is out of range");
            TEST.refused("type(" + sign + ")", RefusedTest::busy, x -> x.type(sign), INVALID);
            TEST.refused("type(" + sign + ") at first", FieldMixtures::new, x -> x.type(sign), INVALID);
            TEST.sentence("21: INVALID_ARGUMENT rather than LIMIT_REACHED");
            TEST.refused("type(" + sign + ")", full, x -> x.type(sign), INVALID);
        }
        TEST.sentence("21: LIMIT_REACHED if it has 80 characters");
        for (int sign = 32; sign <= 126; sign++) {
            int typed = sign;
            TEST.refused("type(" + sign + ")", full, x -> x.type(typed), LIMIT);
        }
        for (int what : new int[] {LEAST, -1, 3, 4, MOST}) {
            TEST.sentence("23: INVALID_ARGUMENT rather than NOT_FOUND");
            TEST.refused("fault(" + what + ") of nothing", FieldMixtures::new, x -> x.fault(what), INVALID);
            TEST.refused("fault(" + what + ") of no fault", () -> Boundary.withText("0:004;"), x -> x.fault(what),
                    INVALID);
            TEST.refused("fault(" + what + ") of a fault", RefusedTest::busy, x -> x.fault(what), INVALID);
            TEST.refused("fault(" + what + ") of the reason 2", () -> Boundary.withText("0:005;"),
                    x -> x.fault(what), INVALID);
        }
        for (int what = 0; what <= 2; what++) {
            int asked = what;
            TEST.sentence("23: NOT_FOUND if the text has no fault (also if it is empty)");
            TEST.refused("of nothing", FieldMixtures::new, x -> x.fault(asked), MISSING);
            TEST.refused("of no fault", () -> Boundary.withText("0:004;1:400*99;"), x -> x.fault(asked), MISSING);
        }
        TEST.sentence("23: NOT_FOUND for 2 if the reason is not 1");
        TEST.refused("of 2, no allocation", () -> Boundary.withText("0:005;"), x -> x.fault(2), MISSING);
        TEST.refused("of 2, no weight", () -> Boundary.withText("0:004*0;"), x -> x.fault(2), MISSING);
        TEST.refused("of 3", RefusedTest::full, x -> x.fault(2), MISSING);
        TEST.due("though it has a reason", full().fault(1), 3);
    }

    private static void read() {
        TEST.sentence("24: NOT_POSSIBLE if the text has a fault; the parts ahead of it are not done either");
        String good = "0:022*50;1:022;0:004*9;";
        String[] faults = {"x", " ", "0", "0:", "0:00", "0:004", "0:004*", "0:004*1", "0:0004;", "2:004;", "0:005;",
            "1:300;", "0:004*0;", "0:004*00;"};
        for (String fault : faults) {
            TEST.refused("read() of " + fault, () -> textInBusy(fault), x -> x.read(), IMPOSSIBLE);
            TEST.refused("read() of good parts and " + fault, () -> textInBusy(good + fault), x -> x.read(),
                    IMPOSSIBLE);
            TEST.refused("read() of " + fault + " and good parts", () -> textInBusy(fault + good), x -> x.read(),
                    IMPOSSIBLE);
        }
        TEST.refused("read() of a 13th one", RefusedTest::full, x -> x.read(), IMPOSSIBLE);
        TEST.refused("read() of a 13th one behind good parts", () -> {
            FieldMixtures x = full();
            x.clearText();
            return Boundary.write(x, "0:004*50;1:220*3;1:400;");
        }, x -> x.read(), IMPOSSIBLE);
        TEST.refused("read() of 13 for an empty mixture", () -> Boundary.withText(
                "1:004;1:013;1:022;1:031;1:040;1:103;1:112;1:121;1:130;1:202;1:211;1:220;1:301;"), x -> x.read(),
                IMPOSSIBLE);
    }

    private static FieldMixtures textInBusy(String text) {
        FieldMixtures x = busy();
        x.clearText();
        return Boundary.write(x, text);
    }

    /** A refused change must not push the oldest state out: all of them refused, one after another. */
    private static void fullHistoryStays() {
        TEST.sentence("A call that returns an error changes nothing: the full history");
        FieldMixtures x = busy();
        TEST.due("fields", x.fields(5), INVALID);
        TEST.due("value", x.value(0, 10), INVALID);
        TEST.due("resources", x.resources(0, 9), INVALID);
        TEST.due("bound", x.bound(0, 0, 9), INVALID);
        TEST.due("tie", x.tie(3), INVALID);
        TEST.due("put", x.put(0, 4, 100), INVALID);
        TEST.due("take", x.take(0, 13), IMPOSSIBLE);
        TEST.due("round", x.round(21), INVALID);
        TEST.due("read", x.read(), IMPOSSIBLE);
        TEST.alike("as without the calls", x, busy());
        x = Boundary.duel(99, 99);
        TEST.due("round(1)", x.round(1), LIMIT);
        TEST.due("states", x.count(9), 4);
        TEST.alike("as without the round", x, Boundary.duel(99, 99));
    }
}
