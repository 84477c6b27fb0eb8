import java.util.List;
import java.util.function.Consumer;
import java.util.function.Supplier;

/** The empty ones and the full ones: mixtures, history, text, allocations, weights and rounds. */
public final class LimitsTest {
    private static final Boundary TEST = new Boundary("LimitsTest");
    private static final int INVALID = Boundary.INVALID;
    private static final int IMPOSSIBLE = Boundary.IMPOSSIBLE;
    private static final int LIMIT = Boundary.LIMIT;
    private static final int MISSING = Boundary.MISSING;
    private static final int ZERO = Boundary.ZERO;

    public static void main(String[] args) {
        newObject();
        otherNumberOfFields();
        goneByResources();
        goneByBounds();
        fewestAndMostAllocations();
        draws();
        mostGains();
        alwaysBetter();
        emptyMixture();
        fullMixture();
        weights();
        fractions();
        roundsOfWeights();
        roundsOfAllocations();
        roundsAddReplies();
        twentyRounds();
        firstInOrder();
        emptyHistory();
        fullHistory();
        eachChange();
        eachNumberIsRestored();
        noChanges();
        emptyText();
        fullText();
        TEST.close();
    }

    private static void due(String call, long got, long want) {
        TEST.due(call, got, want);
    }

    private static void mixed(FieldMixtures x, int player, String want) {
        String got = Boundary.mixture(x, player);
        TEST.holds("mixture " + player + " is " + got + ", due is " + want, got.equals(want));
    }

    private static void newObject() {
        TEST.sentence("1: Creates a contest for three fields");
        FieldMixtures x = new FieldMixtures();
        due("fields", x.count(0), 3);
        TEST.sentence("value: 1 at first");
        for (int field = 0; field < 3; field++) {
            due("value " + field, x.count(20 + field), 1);
        }
        due("the sum", x.count(1), 3);
        TEST.sentence("resources: 4 at first; bound: 8 at first");
        for (int player = 0; player < 2; player++) {
            due("resources " + player, x.count(3 + player), 4);
            for (int field = 0; field < 3; field++) {
                due("bound " + player + " " + field, x.count(30 + 10 * player + field), 8);
            }
        }
        TEST.sentence("a draw by the tie rule 0 (at first)");
        due("rule", x.count(2), 0);
        due("draws", x.gains(112, 112), 1000);
        TEST.sentence("at first none: the mixtures; a text: initially empty");
        for (int what = 5; what <= 10; what++) {
            due("count(" + what + ")", x.count(what), 0);
        }
    }

    private static void otherNumberOfFields() {
        TEST.sentence("of another number of fields all of them");
        int[] others = {2, 4};
        for (int fields : others) {
            FieldMixtures x = Boundary.busy();
            x.fields(fields);
            mixed(x, 0, "");
            mixed(x, 1, "");
            due("weight", x.count(7) + x.count(8), 0);
            TEST.sentence("of another number of fields all of them, also back again");
            x.fields(3);
            mixed(x, 0, "");
            mixed(x, 1, "");
        }
        FieldMixtures x = new FieldMixtures();
        x.resources(0, 0);
        x.put(0, 0, 5);
        x.fields(4);
        due("0 is one of 3 fields and of 4, but gone", x.count(5), 0);
        TEST.sentence("of the same number none is gone");
        x = Boundary.busy();
        x.bound(0, 2, 4);
        x.bound(1, 0, 4);
        due("fields(3)", x.fields(3), 3);
        mixed(x, 0, "4*3 220*99");
        mixed(x, 1, "13*5 400*2");
        TEST.sentence("2: all values and bounds are as at first then, of the same number too");
        due("value", x.count(22), 1);
        due("bound", x.count(32), 8);
        due("bound", x.count(40), 8);
        due("the rule stays", x.count(2), 1);
        due("the text stays", x.count(10), 12);
    }

    private static void goneByResources() {
        TEST.sentence("4: Returns how many allocations are left in the mixture of the player");
        for (int player = 0; player < 2; player++) {
            FieldMixtures x = Boundary.busy();
            int other = 1 - player;
            String others = Boundary.mixture(x, other);
            due("resources(4), as they are", x.resources(player, 4), 2);
            due("resources(5), one more", x.resources(player, 5), 0);
            mixed(x, player, "");
            mixed(x, other, others);
            due("resources(4) again brings none back", x.resources(player, 4), 0);
            x = Boundary.busy();
            due("resources(3), one less", x.resources(player, 3), 0);
            mixed(x, other, others);
            TEST.sentence("resources: 0 and 8: the fewest and the most");
            due("resources(0)", x.resources(player, 0), 0);
            due("put 0", x.put(player, 0, 9), 0);
            due("resources(0) again", x.resources(player, 0), 1);
            due("resources(8)", x.resources(player, 8), 0);
            due("put 8", x.put(player, 8, 9), 0);
            due("put 800", x.put(player, 800, 9), 0);
            due("resources(8) again", x.resources(player, 8), 2);
            TEST.sentence("4: Returns how many allocations are left in the mixture of the player");
        }
    }

    private static void goneByBounds() {
        TEST.sentence("at most the bound of the field: those above it are gone, those at it stay");
        for (int player = 0; player < 2; player++) {
            for (int field = 0; field < 3; field++) {
                int[] place = {100, 10, 1};
                FieldMixtures x = new FieldMixtures();
                int other = field == 0 ? 1 : 100;
                for (int amount = 0; amount <= 4; amount++) {
                    x.put(player, amount * place[field] + (4 - amount) * other, 10 + amount);
                }
                x.put(1 - player, 4 * place[field], 1);
                for (int bound = 8; bound >= 4; bound--) {
                    due("bound " + bound, x.bound(player, field, bound), 5);
                }
                for (int bound = 3; bound >= 0; bound--) {
                    due("bound " + bound, x.bound(player, field, bound), bound + 1);
                    due("the one at the bound", x.marginal(player, field, bound), 10 + bound);
                    due("the one above it", x.marginal(player, field, bound + 1), 0);
                }
                due("of the other player", x.count(6 - player), 1);
                due("bound 8 brings none back", x.bound(player, field, 8), 1);
            }
        }
    }

    private static void fewestAndMostAllocations() {
        for (int player = 0; player < 2; player++) {
            int p = player;
            TEST.sentence("A player whose bounds leave no allocation has none");
            Supplier<FieldMixtures> made = () -> Boundary.without(p);
            due("how many", made.get().allocations(player, -1), 0);
            TEST.refused("allocations( , 0)", made, x -> x.allocations(p, 0), MISSING);
            for (int number : new int[] {0, 3, 4, 13, 111, 112, 400}) {
                TEST.refused("put( , " + number + ")", made, x -> x.put(p, number, 1), INVALID);
                TEST.refused("take( , " + number + ")", made, x -> x.take(p, number), INVALID);
                TEST.refused("better( , " + number + ")", made, x -> x.better(p, number), INVALID);
            }
            TEST.sentence("bounds that leave one allocation, and one less");
            FieldMixtures x = made.get();
            x.bound(player, 1, 2);
            due("bounds 1, 2, 1", x.allocations(player, -1), 1);
            due("it is", x.allocations(player, 0), 121);
            due("no second one", x.allocations(player, 1), MISSING);
            x.resources(player, 5);
            due("five resources", x.allocations(player, -1), 0);
            x.resources(player, 0);
            due("no resources", x.allocations(player, -1), 1);
            due("no resources", x.allocations(player, 0), 0);
        }
        TEST.sentence("7: Returns how many there are, of the fewest and the most resources and fields");
        int[][] due = {{1, 9}, {1, 45}, {1, 165}};
        for (int fields = 2; fields <= 4; fields++) {
            FieldMixtures x = new FieldMixtures();
            x.fields(fields);
            x.resources(0, 0);
            x.resources(1, 8);
            due("of 0", x.allocations(0, -1), due[fields - 2][0]);
            due("of 8", x.allocations(1, -1), due[fields - 2][1]);
            int last = due[fields - 2][1] - 1;
            due("the first", x.allocations(1, 0), 8);
            due("the second", x.allocations(1, 1), 17);
            due("the last", x.allocations(1, last), 8 * (int) Math.pow(10, fields - 1));
            due("none behind it", x.allocations(1, last + 1), MISSING);
            due("no second one of 0", x.allocations(0, 1), MISSING);
        }
    }

    private static void draws() {
        TEST.sentence("A field is won by the player who gives it more: by one");
        FieldMixtures x = new FieldMixtures();
        x.fields(2);
        x.value(0, 9);
        x.value(1, 4);
        due("one more in field 0", x.gains(22, 13), 1005);
        due("one less in field 0", x.gains(13, 22), 995);
        TEST.sentence("a draw by the tie rule 0, won by the player 0 by 1, and by the player 1 by 2");
        due("rule 0", x.gains(22, 22), 1000);
        x.tie(1);
        due("rule 1", x.gains(22, 22), 1013);
        x.tie(2);
        due("rule 2", x.gains(22, 22), 987);
        TEST.sentence("the same: of nothing too");
        x.fields(3);
        x.tie(0);
        due("rule 0", x.gains(4, 40), 1000);
        x.tie(1);
        due("rule 1: field 0 is of the player 0", x.gains(4, 40), 1001);
        x.tie(2);
        due("rule 2: field 0 is of the player 1", x.gains(4, 40), 999);
    }

    private static void mostGains() {
        TEST.sentence("8: Returns what it gains plus 1000, at the most and the least that it can be");
        FieldMixtures x = new FieldMixtures();
        x.fields(4);
        for (int field = 0; field < 4; field++) {
            x.value(field, 9);
        }
        x.resources(0, 4);
        x.resources(1, 0);
        due("all fields are won", x.gains(1111, 0), 1036);
        due("count(1)", x.count(1), 36);
        x.resources(0, 0);
        x.resources(1, 4);
        due("all fields are lost", x.gains(0, 1111), 964);
        x.fields(2);
        due("the smallest sum of values", x.count(1), 2);
        due("both fields are lost", x.gains(0, 22), 998);
    }

    private static void alwaysBetter() {
        TEST.sentence("9: NOT_FOUND if there is none (also if the other player has no allocation)");
        for (int player = 0; player < 2; player++) {
            int p = player;
            for (int number : new int[] {4, 112, 400}) {
                TEST.refused("better( , " + number + ")", () -> Boundary.without(1 - p), x -> x.better(p, number),
                        MISSING);
            }
            TEST.refused("112 is good", FieldMixtures::new, x -> x.better(p, 112), MISSING);
        }
        TEST.sentence("9: it gains at least as much against each allocation, and more against one at least");
        FieldMixtures x = new FieldMixtures();
        x.fields(2);
        x.resources(1, 0);
        due("never more than 13: as much is not better", x.better(0, 13), MISSING);
        due("22 as well", x.better(0, 22), MISSING);
        due("31 as well", x.better(0, 31), MISSING);
        due("13 gains more than 04 against the one that there is", x.better(0, 4), 13);
        x.resources(1, 4);
        // One field is won and one lost, or both are draws: each gains 0 against each.
        due("more against none", x.better(0, 4), MISSING);
        x.value(0, 2);
        // Who gives the dear field more gains 1: 22 loses to 31 and 40, 31 to 40 alone, 40 to none.
        due("31 is better than 22", x.better(0, 22), 31);
        due("40 loses to none: none is better", x.better(0, 40), MISSING);
        TEST.sentence("9: Returns the first such one");
        due("13, though 22 to 40 are better than 04 too", x.better(0, 4), 13);
        due("of the player 1 too", x.better(1, 4), 13);
        due("the last one: 40, better than 31 alone", x.better(0, 31), 40);
        x.value(0, 1);
        x.value(1, 2);
        due("the first one of all: 04", x.better(0, 40), 4);
        due("the first one of all: 04, of the player 1", x.better(1, 13), 4);
        x.value(0, 2);
        x.value(1, 1);
        TEST.sentence("9: it gains at least as much against each allocation");
        x.tie(1);
        // Now 04 gains 3 against 04, and the others 1: more against some is not enough.
        due("04 is best against one", x.better(0, 4), MISSING);
        x.bound(1, 1, 3);
        due("13, when the player 1 has 04 no more", x.better(0, 4), 13);
    }

    private static void emptyMixture() {
        TEST.sentence("at first none; the empty mixture");
        for (int player = 0; player < 2; player++) {
            int p = player;
            isEmpty(() -> otherMixes(p), p);
            isEmpty(() -> {
                FieldMixtures x = otherMixes(p);
                x.put(p, 4, 99);
                x.take(p, 4);
                return x;
            }, p);
            isEmpty(() -> {
                FieldMixtures x = otherMixes(p);
                x.put(p, 4, 99);
                x.bound(p, 2, 3);
                x.bound(p, 2, 8);
                return x;
            }, p);
            isEmpty(() -> {
                FieldMixtures x = otherMixes(p);
                x.put(p, 4, 99);
                x.undo();
                return x;
            }, p);
        }
        TEST.sentence("NOT_POSSIBLE if one of both mixtures has none: both");
        TEST.refused("round(1)", FieldMixtures::new, x -> x.round(1), IMPOSSIBLE);
        TEST.refused("round(20)", FieldMixtures::new, x -> x.round(20), IMPOSSIBLE);
        for (int part = 0; part < 2; part++) {
            int asked = part;
            TEST.refused("expected", FieldMixtures::new, x -> x.expected(asked), IMPOSSIBLE);
            TEST.refused("could 0", FieldMixtures::new, x -> x.could(0, asked), IMPOSSIBLE);
            TEST.refused("could 1", FieldMixtures::new, x -> x.could(1, asked), IMPOSSIBLE);
        }
    }

    private static FieldMixtures otherMixes(int player) {
        FieldMixtures x = new FieldMixtures();
        x.put(1 - player, 112, 2);
        return x;
    }

    /** Of the player the mixture is empty, of the other one it is 112*2. */
    private static void isEmpty(Supplier<FieldMixtures> made, int p) {
        int o = 1 - p;
        due("how many", made.get().count(5 + p), 0);
        due("its weight", made.get().count(7 + p), 0);
        TEST.refused("take", made, x -> x.take(p, 4), IMPOSSIBLE);
        TEST.refused("the first allocation", made, x -> x.mixtureOf(p, 0, 0), MISSING);
        TEST.refused("the first weight", made, x -> x.mixtureOf(p, 0, 1), MISSING);
        TEST.refused("the first one's gain, as the other one has some", made, x -> x.mixtureOf(p, 0, 2), MISSING);
        TEST.refused("the first one's gain, its lower part", made, x -> x.mixtureOf(p, 0, 3), MISSING);
        TEST.refused("the other one's gain", made, x -> x.mixtureOf(o, 0, 2), IMPOSSIBLE);
        TEST.refused("the other one's gain, its lower part", made, x -> x.mixtureOf(o, 0, 3), IMPOSSIBLE);
        due("the other one's allocation", made.get().mixtureOf(o, 0, 0), 112);
        due("the other one's weight", made.get().mixtureOf(o, 0, 1), 2);
        for (int field = 0; field < 3; field++) {
            int f = field;
            for (int amount = 0; amount <= 8; amount++) {
                due("marginal", made.get().marginal(p, field, amount), 0);
            }
            TEST.refused("mean", made, x -> x.mean(p, f, 0), IMPOSSIBLE);
            TEST.refused("mean, its lower part", made, x -> x.mean(p, f, 1), IMPOSSIBLE);
            due("mean of the other one", made.get().mean(o, field, 0), ZERO + (field == 2 ? 2 : 1));
        }
        TEST.refused("round", made, x -> x.round(1), IMPOSSIBLE);
        for (int part = 0; part < 2; part++) {
            int asked = part;
            TEST.refused("expected", made, x -> x.expected(asked), IMPOSSIBLE);
            TEST.refused("could", made, x -> x.could(p, asked), IMPOSSIBLE);
            TEST.refused("could of the other one", made, x -> x.could(o, asked), IMPOSSIBLE);
        }
        for (int what = 0; what <= 3; what++) {
            int asked = what;
            TEST.refused("reply of the other one", made, x -> x.reply(o, asked), IMPOSSIBLE);
        }
        // 220 alone wins two fields against 112.
        due("a reply without a mixture of one's own", made.get().reply(p, 0), 220);
        due("it gains", made.get().reply(p, 1), ZERO + 1);
    }

    private static void fullMixture() {
        TEST.sentence("at most 12 allocations");
        for (int player = 0; player < 2; player++) {
            int p = player;
            for (int many = 0; many < 12; many++) {
                FieldMixtures x = Boundary.fill(new FieldMixtures(), player, many, 2);
                due("one more than " + many, x.put(player, x.allocations(player, many), 1), 0);
                due("there are then", x.count(5 + player), many + 1);
            }
            Supplier<FieldMixtures> made = () -> Boundary.fill(new FieldMixtures(), p, 12, 2);
            TEST.sentence("10: LIMIT_REACHED if it is not there, and there are 12");
            for (int number : new int[] {301, 310, 400}) {
                TEST.refused("put( , " + number + ", 1)", made, x -> x.put(p, number, 1), LIMIT);
            }
            int[] all = {4, 13, 22, 31, 40, 103, 112, 121, 130, 202, 211, 220};
            for (int index = 0; index < 12; index++) {
                FieldMixtures x = made.get();
                due("index " + index, x.mixtureOf(player, index, 0), all[index]);
                due("one of the 12 gets another weight", x.put(player, all[index], 99), 2);
                due("12 still", x.count(5 + player), 12);
                due("its new weight", x.mixtureOf(player, index, 1), 99);
                due("take one", x.take(player, all[index]), 99);
                due("another one comes", x.put(player, 400, 5), 0);
                due("it is the last one", x.mixtureOf(player, 11, 0), 400);
                due("12 again", x.count(5 + player), 12);
            }
            TEST.refused("no 13th one", made, x -> x.mixtureOf(p, 12, 0), MISSING);
            due("the other player may", made.get().put(1 - player, 400, 1), 0);
            TEST.sentence("13: in order of allocations");
            FieldMixtures x = new FieldMixtures();
            for (int index = 11; index >= 0; index--) {
                x.put(player, all[index], index + 1);
            }
            mixed(x, player, "4*1 13*2 22*3 31*4 40*5 103*6 112*7 121*8 130*9 202*10 211*11 220*12");
        }
    }

    private static void weights() {
        TEST.sentence("each with a weight (1 to 99); The weight of a mixture is the sum of its weights");
        FieldMixtures x = new FieldMixtures();
        Boundary.fill(x, 0, 12, 99);
        Boundary.fill(x, 1, 12, 1);
        due("the most", x.count(7), 1188);
        due("of 12 at least", x.count(8), 12);
        due("marginal of the most", x.marginal(0, 0, 0), 5 * 99);
        due("put( , 1) returns 99", x.put(0, 4, 1), 99);
        due("put( , 99) returns 1", x.put(0, 4, 99), 1);
        due("take returns 99", x.take(0, 4), 99);
        due("take returns 1", x.take(1, 4), 1);
        TEST.sentence("Returns the weights added up, the mean, what mixtures gain: of 12, and without one taken");
        x = new FieldMixtures();
        Boundary.fill(x, 0, 12, 99);
        Boundary.fill(x, 1, 12, 1);
        // The field 0 gets 5 times 0, 4 times 1, 3 times 2.
        due("mean of 12", x.mean(0, 0, 0), ZERO + 5);
        due("its lower part", x.mean(0, 0, 1), 6);
        due("12 gain nothing against the same 12", x.expected(0), ZERO);
        x.take(0, 220);
        due("mean of 11: 8 of 11", x.mean(0, 0, 0), ZERO + 8);
        due("its lower part", x.mean(0, 0, 1), 11);
        due("marginal of 2: 202 and 211", x.marginal(0, 0, 2), 2 * 99);
        due("the weight", x.count(7), 1089);
        x = new FieldMixtures();
        x.put(0, 4, 1);
        x.put(0, 220, 5);
        x.put(1, 112, 1);
        x.take(0, 220);
        due("004 loses two fields and wins one", x.expected(0), ZERO - 1);
        due("of 1", x.expected(1), 1);
        due("220 would gain 1", x.could(0, 0), ZERO + 2);
        due("the mean of the field 0", x.mean(0, 0, 0), ZERO);
        due("the mean of the field 2", x.mean(0, 2, 0), ZERO + 4);
        due("marginal", x.marginal(0, 0, 2), 0);
    }

    private static void fractions() {
        TEST.sentence("a fraction: plus 100000000, in lowest terms, the lower part above 0");
        FieldMixtures x = new FieldMixtures();
        x.put(0, 112, 6);
        x.put(1, 112, 9);
        due("nothing is 0", x.expected(0), ZERO);
        due("and 1", x.expected(1), 1);
        due("mixtureOf( , 2) of nothing", x.mixtureOf(0, 0, 2), ZERO);
        due("mixtureOf( , 3) of nothing", x.mixtureOf(0, 0, 3), 1);
        due("a whole mean", x.mean(0, 2, 0), ZERO + 2);
        due("and 1", x.mean(0, 2, 1), 1);
        x.tie(2);
        due("below 0, whole", x.expected(0), ZERO - 3);
        due("and 1", x.expected(1), 1);
        x.put(0, 400, 6);
        // 112 against 112: -3; 400 against 112: 1 - 2 = -1: together (-18 - 6) / 12.
        due("below 0, in lowest terms", x.expected(0), ZERO - 2);
        due("and 1", x.expected(1), 1);
        x.put(0, 400, 7);
        due("below 0", x.expected(0), ZERO - 25);
        due("the lower part stays above 0", x.expected(1), 13);
        due("below 0 of one allocation", x.mixtureOf(0, 1, 2), ZERO - 1);
        // 220 and 310 win two fields; what 112 wins by the draws is 3 of 3.
        due("a reply of the player 1", x.reply(1, 0), 112);
        // 112 gains 3 against 112 (6) and 1 against 400 (7).
        due("it gains", x.reply(1, 1), ZERO + 25);
        due("by", x.reply(1, 2), 13);
        due("so it could gain nothing", x.could(1, 0), ZERO);
        due("and 1", x.could(1, 1), 1);
    }

    private static void roundsOfWeights() {
        TEST.sentence("12: LIMIT_REACHED if a weight would be above 99");
        FieldMixtures x = Boundary.duel(98, 98);
        due("from 98 to 99", x.round(1), 2);
        mixed(x, 0, "10*99");
        mixed(x, 1, "10*99");
        for (int many = 1; many <= 20; many++) {
            int asked = many;
            TEST.refused("of both", () -> Boundary.duel(99, 99), y -> y.round(asked), LIMIT);
            TEST.refused("of the player 0", () -> Boundary.duel(100 - asked, 1), y -> y.round(asked), LIMIT);
            TEST.refused("of the player 1", () -> Boundary.duel(1, 100 - asked), y -> y.round(asked), LIMIT);
            x = Boundary.duel(99 - many, 99 - many);
            due("just to 99", x.round(many), 2);
            mixed(x, 0, "10*99");
            mixed(x, 1, "10*99");
        }
        TEST.sentence("12: its weight becomes greater by 1, or it comes with the weight 1");
        x = Boundary.duel(1, 1);
        x.take(0, 10);
        x.put(0, 1, 99);
        due("another one's weight of 99 is no limit", x.round(1), 3);
        mixed(x, 0, "1*99 10*1");
        mixed(x, 1, "10*2");
        TEST.sentence("12: In a round both players find their best replies: each of his own allocations");
        x = Boundary.duel(1, 1);
        x.resources(1, 2);
        x.put(1, 20, 1);
        // 01 loses 3 and wins 1 against 20, 10 loses 3; 20 wins 3 against 10, 11 and 02 less.
        due("one against two resources", x.round(1), 3);
        mixed(x, 0, "1*1 10*1");
        mixed(x, 1, "20*2");
    }

    /** 112 wins two fields against 004 and against 400, and is the first to gain as much. */
    private static FieldMixtures almostFull(int player, int many, boolean withReply) {
        FieldMixtures x = new FieldMixtures();
        x.value(0, 9);
        x.put(1 - player, 4, 50);
        Boundary.fill(x, player, 12, 1);
        if (!withReply) {
            x.take(player, 112);
            x.put(player, 400, 1);
        }
        for (int index = 12; index > many; index--) {
            x.take(player, x.mixtureOf(player, 0, 0));
        }
        return x;
    }

    private static void roundsOfAllocations() {
        for (int player = 0; player < 2; player++) {
            int p = player;
            TEST.sentence("12: LIMIT_REACHED if a mixture would have more than 12 allocations");
            FieldMixtures x = almostFull(player, 11, false);
            due("the reply", x.reply(player, 0), 112);
            due("from 11 to 12", x.round(1), 14);
            due("it came with the weight", x.mixtureOf(player, 5, 1), 1);
            due("it is", x.mixtureOf(player, 5, 0), 112);
            TEST.refused("from 12 to 13", () -> almostFull(p, 12, false), y -> y.round(1), LIMIT);
            TEST.refused("from 12 to 13, and on", () -> almostFull(p, 12, false), y -> y.round(20), LIMIT);
            TEST.sentence("12: of 12 one whose reply is there: its weight becomes greater by 1");
            x = almostFull(player, 12, true);
            due("12 stay 12", x.round(1), 14);
            due("the reply's weight", x.mixtureOf(player, 6, 1), 2);
            due("how many", x.count(5 + player), 12);
        }
    }

    private static FieldMixtures afterRounds(int rule, int many) {
        FieldMixtures x = Boundary.withText("0:004;1:310;");
        x.read();
        x.tie(rule);
        x.value(1, 2);
        for (int round = 0; round < many; round++) {
            x.round(1);
        }
        return x;
    }

    /** By each tie rule each of 20 rounds adds what reply told ahead of it, and nothing else. */
    private static void roundsAddReplies() {
        TEST.sentence("12: both find their best replies to the mixtures as they are; then each puts its reply");
        for (int rule = 0; rule <= 2; rule++) {
            for (int round = 0; round < 20; round++) {
                FieldMixtures x = afterRounds(rule, round);
                FieldMixtures due = afterRounds(rule, round);
                for (int player = 0; player < 2; player++) {
                    int reply = x.reply(player, 0);
                    int weight = due.put(player, reply, 1);
                    due.put(player, reply, weight + 1);
                }
                due("a round after " + round + " by the rule " + rule, x.round(1), due.count(5) + due.count(6));
                mixed(x, 0, Boundary.mixture(due, 0));
                mixed(x, 1, Boundary.mixture(due, 1));
            }
        }
        TEST.sentence("12: by the tie rules 1 and 2");
        FieldMixtures x = Boundary.duel(1, 1);
        x.tie(1);
        x.value(0, 1);
        // 10 and 01 gain 2 and 0 against 10 for the player 0, for the player 1 -2 and 0.
        due("rule 1", x.round(1), 3);
        mixed(x, 0, "10*2");
        mixed(x, 1, "1*1 10*1");
        x = Boundary.duel(1, 1);
        x.tie(2);
        x.value(0, 1);
        due("rule 2", x.round(1), 3);
        mixed(x, 0, "1*1 10*1");
        mixed(x, 1, "10*2");
    }

    private static void twentyRounds() {
        TEST.sentence("12: many: 1 to 20: as that many rounds, one after another");
        Supplier<FieldMixtures> made = LimitsTest::contested;
        for (int many : new int[] {1, 2, 19, 20}) {
            FieldMixtures once = made.get();
            FieldMixtures apart = made.get();
            int last = 0;
            for (int round = 0; round < many; round++) {
                last = apart.round(1);
            }
            due("round(" + many + ")", once.round(many), last);
            mixed(once, 0, Boundary.mixture(apart, 0));
            mixed(once, 1, Boundary.mixture(apart, 1));
            due("weight 0", once.count(7), 1 + many);
            due("weight 1", once.count(8), 1 + many);
            TEST.sentence("the changes are the calls: 20 rounds are one");
            due("states", once.count(9), 3);
            due("undo()", once.undo(), 2);
            TEST.alike("as before the rounds", once, made.get());
        }
        TEST.refused("round(21)", made, x -> x.round(21), INVALID);
        TEST.refused("round(0)", made, x -> x.round(0), INVALID);
    }

    private static FieldMixtures contested() {
        FieldMixtures x = Boundary.withText("0:004;1:310;");
        x.read();
        x.tie(2);
        return x;
    }

    private static void firstInOrder() {
        TEST.sentence("A best reply: of several the first one in order; 17: how many, this one included");
        FieldMixtures x = new FieldMixtures();
        x.put(1, 220, 3);
        due("the first", x.reply(0, 0), 31);
        due("of", x.reply(0, 3), 2);
        x.bound(0, 1, 2);
        due("without the first", x.reply(0, 0), 301);
        due("alone", x.reply(0, 3), 1);
        x.resources(0, 0);
        due("one allocation: itself", x.reply(0, 0), 0);
        due("alone", x.reply(0, 3), 1);
        x = new FieldMixtures();
        x.fields(4);
        x.resources(0, 8);
        x.resources(1, 0);
        x.put(1, 0, 1);
        due("each that gives all fields something", x.reply(0, 3), 35);
        due("the first of them", x.reply(0, 0), 1115);
        x.tie(1);
        due("all that there are", x.reply(0, 3), 165);
        due("the first one", x.reply(0, 0), 8);
        TEST.sentence("17: NOT_POSSIBLE if the player has no allocation");
        for (int what = 0; what <= 3; what++) {
            int asked = what;
            TEST.refused("reply(0, )", () -> Boundary.without(0), y -> y.reply(0, asked), IMPOSSIBLE);
            TEST.refused("reply(1, )", () -> Boundary.without(1), y -> y.reply(1, asked), IMPOSSIBLE);
        }
    }

    private static void emptyHistory() {
        TEST.sentence("20: NOT_POSSIBLE if it is empty");
        TEST.refused("undo() at first", FieldMixtures::new, x -> x.undo(), IMPOSSIBLE);
        TEST.refused("undo() with a text", () -> Boundary.withText("0:004;"), x -> x.undo(), IMPOSSIBLE);
        TEST.refused("undo() after the last one", () -> {
            FieldMixtures x = Boundary.busy();
            for (int state = 0; state < 4; state++) {
                x.undo();
            }
            return x;
        }, x -> x.undo(), IMPOSSIBLE);
    }

    private static void fullHistory() {
        TEST.sentence("A history of at most 4 states is kept; if there are 5 then, the oldest one is dropped");
        for (int changes = 1; changes <= 9; changes++) {
            FieldMixtures x = new FieldMixtures();
            for (int change = 1; change <= changes; change++) {
                x.put(0, 4, change);
                due("states", x.count(9), Math.min(change, 4));
            }
            TEST.sentence("20: Returns the number of states that are left in the history");
            int kept = Math.min(changes, 4);
            for (int back = 1; back <= kept; back++) {
                due("undo()", x.undo(), kept - back);
                due("states", x.count(9), kept - back);
                due("the weight before", x.count(7), changes - back);
            }
            due("undo() of no more", x.undo(), IMPOSSIBLE);
            due("the weight stays", x.count(7), changes - kept);
            TEST.sentence("A history of at most 4 states is kept; if there are 5 then, the oldest one is dropped");
        }
        FieldMixtures x = Boundary.busy();
        due("full", x.count(9), 4);
        x.undo();
        due("three", x.count(9), 3);
        x.tie(2);
        due("full again", x.count(9), 4);
        due("undo()", x.undo(), 3);
        due("the rule before", x.count(2), 1);
        due("the one ahead of it", x.undo(), 2);
        due("the rule before", x.count(2), 0);
    }

    /** The nine kinds of changes; each of them is possible in a busy object. */
    private static List<Consumer<FieldMixtures>> changes() {
        return List.of(x -> x.fields(4), x -> x.fields(3), x -> x.value(0, 9), x -> x.value(2, 7),
                x -> x.resources(0, 8), x -> x.resources(1, 4), x -> x.bound(0, 2, 3), x -> x.bound(1, 0, 3),
                x -> x.bound(1, 0, 8),
                x -> x.tie(2), x -> x.tie(1), x -> x.put(0, 13, 4), x -> x.put(0, 4, 3), x -> x.take(0, 220),
                x -> x.round(1), x -> x.round(20), x -> {
                    x.clearText();
                    Boundary.write(x, "0:004;1:040*50;");
                    x.read();
                }, x -> {
                    x.clearText();
                    x.read();
                });
    }

    private static void eachChange() {
        TEST.sentence("The changes are the calls that return no error: each change records everything before it");
        int number = 0;
        for (Consumer<FieldMixtures> change : changes()) {
            number++;
            for (int states = 0; states <= 4; states++) {
                FieldMixtures x = busyWithStates(states);
                String before = shownWithoutText(x);
                change.accept(x);
                due("states after the change " + number, x.count(9), Math.min(states + 1, 4));
                int length = x.count(10);
                due("undo() of the change " + number, x.undo(), Math.min(states, 3));
                TEST.holds("as before the change " + number, shownWithoutText(x).equals(before));
                TEST.sentence("everything before it but the text");
                due("the text after undo()", x.count(10), length);
                TEST.sentence("each change records everything before it");
                for (int left = Math.min(states, 3); left > 0; left--) {
                    due("undo()", x.undo(), left - 1);
                }
                due("no more", x.undo(), IMPOSSIBLE);
            }
        }
    }

    private static void eachNumberIsRestored() {
        TEST.sentence("20: Restores the latest state of the history: each number of it");
        for (int player = 0; player < 2; player++) {
            for (int field = 0; field < 4; field++) {
                FieldMixtures x = new FieldMixtures();
                x.fields(4);
                x.bound(player, field, 7);
                x.bound(player, field, 0);
                due("undo()", x.undo(), 2);
                due("bound", x.count(30 + 10 * player + field), 7);
                x.value(field, 9);
                x.value(field, 5);
                due("undo()", x.undo(), 3);
                due("value", x.count(20 + field), 9);
                due("undo()", x.undo(), 2);
                due("value", x.count(20 + field), 1);
                due("undo()", x.undo(), 1);
                due("bound", x.count(30 + 10 * player + field), 8);
                due("undo()", x.undo(), 0);
                due("fields", x.count(0), 3);
            }
            FieldMixtures x = Boundary.fill(new FieldMixtures(), player, 12, 3);
            String full = Boundary.mixture(x, player);
            x.resources(player, 8);
            x.resources(player, 0);
            due("undo()", x.undo(), 3);
            due("resources", x.count(3 + player), 8);
            due("undo()", x.undo(), 2);
            due("resources", x.count(3 + player), 4);
            mixed(x, player, full);
        }
    }

    /** Two mixtures, the rule 1, the value 7 of the field 2, and as many states in the history. */
    private static FieldMixtures busyWithStates(int states) {
        FieldMixtures x = Boundary.withText("0:004*3;0:220*40;1:013*5;1:400*2;");
        x.read();
        x.tie(1);
        x.value(2, 7);
        for (int change = 0; change < 4; change++) {
            x.tie(2);
        }
        // The last state that is left in the history is the one ahead of these four changes.
        for (int state = 0; state < 4; state++) {
            x.undo();
        }
        for (int change = 0; change < states; change++) {
            x.value(0, 9 - change);
        }
        return x;
    }

    /** What is shown but the number of states and the text. */
    private static String shownWithoutText(FieldMixtures x) {
        StringBuilder all = new StringBuilder();
        for (int what = 0; what < 50; what++) {
            all.append(what == 9 || what == 10 ? 0 : x.count(what)).append(' ');
        }
        return all.append(Boundary.mixture(x, 0)).append('/').append(Boundary.mixture(x, 1)).toString();
    }

    private static void noChanges() {
        TEST.sentence("no changes: type, clearText, undo and what is asked");
        FieldMixtures x = Boundary.busy();
        x.undo();
        String before = shownWithoutText(x);
        x.allocations(0, 3);
        x.gains(4, 400);
        x.better(1, 400);
        x.mixtureOf(0, 0, 2);
        x.marginal(1, 2, 3);
        x.mean(1, 2, 0);
        x.expected(0);
        x.reply(1, 0);
        x.could(0, 0);
        x.count(4);
        x.fault(0);
        x.type('x');
        x.clearText();
        due("states", x.count(9), 3);
        TEST.holds("nothing else", shownWithoutText(x).equals(before));
        due("undo()", x.undo(), 2);
        due("undo() is none: the next one goes further", x.undo(), 1);
    }

    private static void emptyText() {
        TEST.sentence("23: NOT_FOUND if the text has no fault (also if it is empty)");
        for (int what = 0; what <= 2; what++) {
            int asked = what;
            TEST.refused("at first", FieldMixtures::new, x -> x.fault(asked), MISSING);
            TEST.refused("emptied", () -> emptied(), x -> x.fault(asked), MISSING);
        }
        TEST.sentence("22: Returns the length it had");
        due("at first", new FieldMixtures().clearText(), 0);
        due("emptied", emptied().clearText(), 0);
        due("of one", Boundary.withText("x").clearText(), 1);
        TEST.sentence("24: They are one change, also if there are none");
        FieldMixtures x = Boundary.busy();
        x.clearText();
        String before = shownWithoutText(x);
        due("read()", x.read(), 4);
        TEST.holds("as before", shownWithoutText(x).equals(before));
        x = new FieldMixtures();
        due("read() at first", x.read(), 0);
        due("a state", x.count(9), 1);
        due("undo()", x.undo(), 0);
    }

    private static FieldMixtures emptied() {
        FieldMixtures x = Boundary.withText("0:005;x");
        x.clearText();
        return x;
    }

    private static void fullText() {
        TEST.sentence("21: LIMIT_REACHED if it has 80 characters");
        Supplier<FieldMixtures> made = () -> Boundary.withText("0:112*34;".repeat(7) + "1:004*5;".repeat(2) + "0");
        due("80", made.get().count(10), 80);
        for (int sign : new int[] {32, 48, 59, 126}) {
            TEST.refused("type(" + sign + ")", made, x -> x.type(sign), LIMIT);
        }
        FieldMixtures x = new FieldMixtures();
        for (int length = 1; length <= 80; length++) {
            due("type, returns the length", x.type(';'), length);
        }
        due("the 81st", x.type(';'), LIMIT);
        due("clearText", x.clearText(), 80);
        due("it may be typed again", x.type(';'), 1);
        TEST.sentence("the fault's position in a full text");
        x = made.get();
        due("position of the last character", x.fault(0), 79);
        due("reason", x.fault(1), 1);
        due("too early at an end of 80", x.fault(2), 1);
        due("read()", x.read(), IMPOSSIBLE);
        TEST.sentence("24: read of a full text");
        x = Boundary.withText("0:004;".repeat(12) + "1:040*7;");
        due("80", x.count(10), 80);
        due("fault(0)", x.fault(0), MISSING);
        due("read()", x.read(), 2);
        mixed(x, 1, "40*7");
        due("it stays", x.count(10), 80);
    }
}
