/** Each promise of the document by hand: ordinary inputs, the edges that it names, wrong inputs. */
public final class PromisesTest {
    private static final int INVALID = -1000001;
    private static final int IMPOSSIBLE = -1000002;
    private static final int LIMIT = -1000003;
    private static final int MISSING = -1000004;
    private static final int ZERO = 100000000;

    private static final Check CHECK = new Check("PromisesTest");
    private static String promise = "";

    private static void due(String call, long got, long want) {
        CHECK.due(promise + ": " + call, got, want);
    }

    public static void main(String[] args) {
        newObject();
        fields();
        fieldsAndMixtures();
        value();
        resources();
        bound();
        tie();
        allocations();
        gains();
        better();
        put();
        take();
        round();
        roundLimits();
        mixtureOf();
        marginal();
        mean();
        expected();
        reply();
        could();
        largestFractions();
        count();
        undo();
        changesAndErrors();
        type();
        clearText();
        faultOfForm();
        faultOfContent();
        faultOfMixtures();
        read();
        CHECK.close();
    }

    private static void write(FieldMixtures x, String text) {
        for (int index = 0; index < text.length(); index++) {
            x.type(text.charAt(index));
        }
    }

    private static void rewrite(FieldMixtures x, String text) {
        x.clearText();
        write(x, text);
    }

    /** Puts the first allocations of a player into the mixture, all with one weight. */
    private static void fillMixture(FieldMixtures x, int player, int many, int weight) {
        for (int index = 0; index < many; index++) {
            x.put(player, x.allocations(player, index), weight);
        }
    }

    private static void newObject() {
        promise = "1 A new object";
        FieldMixtures x = new FieldMixtures();
        int[] first = {3, 3, 0, 4, 4, 0, 0, 0, 0, 0, 0};
        for (int what = 0; what < first.length; what++) {
            due("count(" + what + ")", x.count(what), first[what]);
        }
        for (int field = 0; field < 3; field++) {
            due("value " + field, x.count(20 + field), 1);
            due("bound 0 " + field, x.count(30 + field), 8);
            due("bound 1 " + field, x.count(40 + field), 8);
        }
        due("allocations(0, -1)", x.allocations(0, -1), 15);
        due("allocations(1, -1)", x.allocations(1, -1), 15);
        due("undo()", x.undo(), IMPOSSIBLE);
        due("fault(0)", x.fault(0), MISSING);
    }

    private static void fields() {
        promise = "2 fields";
        FieldMixtures x = new FieldMixtures();
        due("fields(1)", x.fields(1), INVALID);
        due("fields(5)", x.fields(5), INVALID);
        due("fields(-3)", x.fields(-3), INVALID);
        due("fields(MIN)", x.fields(Integer.MIN_VALUE), INVALID);
        due("fields(MAX)", x.fields(Integer.MAX_VALUE), INVALID);
        due("states after errors", x.count(9), 0);
        due("fields(4)", x.fields(4), 3);
        due("fields(2)", x.fields(2), 4);
        due("fields(2) again", x.fields(2), 2);
        due("each is a change", x.count(9), 3);
        x.resources(0, 7);
        x.tie(2);
        x.value(1, 6);
        x.bound(0, 1, 2);
        x.bound(1, 0, 3);
        due("fields(3)", x.fields(3), 2);
        for (int field = 0; field < 3; field++) {
            due("value as at first", x.count(20 + field), 1);
            due("bound 0 as at first", x.count(30 + field), 8);
            due("bound 1 as at first", x.count(40 + field), 8);
        }
        due("resources stay", x.count(3), 7);
        due("the tie rule stays", x.count(2), 2);
        x.value(2, 9);
        x.fields(2);
        x.fields(3);
        due("a value that was hidden is as at first", x.count(22), 1);
    }

    private static void fieldsAndMixtures() {
        promise = "2 fields, mixtures";
        FieldMixtures x = new FieldMixtures();
        x.put(0, 4, 5);
        x.put(1, 13, 6);
        x.bound(0, 0, 0);
        due("fields(3) lets all stay", x.fields(3), 3);
        due("mixture 0", x.count(5), 1);
        due("mixture 1", x.count(6), 1);
        due("bound 0 0", x.count(30), 8);
        x.fields(4);
        due("another number lets none stay, 0", x.count(5), 0);
        due("another number lets none stay, 1", x.count(6), 0);
        due("undo()", x.undo(), 3);
        due("they are back, 0", x.mixtureOf(0, 0, 1), 5);
        due("they are back, 1", x.mixtureOf(1, 0, 1), 6);
        x.fields(2);
        due("fewer fields let none stay, 0", x.count(5), 0);
        due("fewer fields let none stay, 1", x.count(6), 0);
    }

    private static void value() {
        promise = "3 value";
        FieldMixtures x = new FieldMixtures();
        due("value(-1, 1)", x.value(-1, 1), INVALID);
        due("value(3, 1)", x.value(3, 1), INVALID);
        due("value(0, 0)", x.value(0, 0), INVALID);
        due("value(0, 10)", x.value(0, 10), INVALID);
        due("value(MIN, 1)", x.value(Integer.MIN_VALUE, 1), INVALID);
        due("value(0, MAX)", x.value(0, Integer.MAX_VALUE), INVALID);
        due("states after errors", x.count(9), 0);
        due("value(2, 9)", x.value(2, 9), 1);
        due("value(2, 4)", x.value(2, 4), 9);
        due("value(0, 2)", x.value(0, 2), 1);
        due("sum", x.count(1), 7);
        x.fields(2);
        due("value(2, 1) of two fields", x.value(2, 1), INVALID);
        x.fields(4);
        due("value(3, 9)", x.value(3, 9), 1);
        due("it is a change", x.count(9), 4);
    }

    private static void resources() {
        promise = "4 resources";
        FieldMixtures x = new FieldMixtures();
        due("resources(-1, 1)", x.resources(-1, 1), INVALID);
        due("resources(2, 1)", x.resources(2, 1), INVALID);
        due("resources(0, -1)", x.resources(0, -1), INVALID);
        due("resources(0, 9)", x.resources(0, 9), INVALID);
        due("resources(MIN, 4)", x.resources(Integer.MIN_VALUE, 4), INVALID);
        due("states after errors", x.count(9), 0);
        x.put(0, 4, 1);
        x.put(0, 112, 2);
        x.put(1, 4, 3);
        due("resources(0, 4) leaves all", x.resources(0, 4), 2);
        due("resources(1, 5) leaves none", x.resources(1, 5), 0);
        due("the other mixture stays", x.count(5), 2);
        due("resources(0, 0)", x.resources(0, 0), 0);
        due("one allocation", x.allocations(0, -1), 1);
        due("it is 0", x.allocations(0, 0), 0);
        due("resources(0, 8)", x.resources(0, 8), 0);
        due("45 allocations", x.allocations(0, -1), 45);
        due("undo()", x.undo(), 3);
        due("undo()", x.undo(), 2);
        due("resources are back", x.count(3), 4);
        due("the mixture is back", x.count(5), 2);
    }

    private static void bound() {
        promise = "5 bound";
        FieldMixtures x = new FieldMixtures();
        due("bound(-1, 0, 1)", x.bound(-1, 0, 1), INVALID);
        due("bound(2, 0, 1)", x.bound(2, 0, 1), INVALID);
        due("bound(0, -1, 1)", x.bound(0, -1, 1), INVALID);
        due("bound(0, 3, 1)", x.bound(0, 3, 1), INVALID);
        due("bound(0, 0, -1)", x.bound(0, 0, -1), INVALID);
        due("bound(0, 0, 9)", x.bound(0, 0, 9), INVALID);
        due("bound(0, MAX, 1)", x.bound(0, Integer.MAX_VALUE, 1), INVALID);
        due("states after errors", x.count(9), 0);
        x.put(0, 4, 1);
        x.put(0, 13, 2);
        x.put(0, 103, 3);
        x.put(0, 400, 4);
        x.put(1, 4, 5);
        due("bound(0, 2, 3)", x.bound(0, 2, 3), 3);
        due("the first left", x.mixtureOf(0, 0, 0), 13);
        due("its weight", x.mixtureOf(0, 0, 1), 2);
        due("the last left", x.mixtureOf(0, 2, 0), 400);
        due("its weight", x.mixtureOf(0, 2, 1), 4);
        due("the other mixture stays", x.count(6), 1);
        due("bound(0, 0, 0)", x.bound(0, 0, 0), 1);
        due("bound(0, 1, 0) leaves no allocation", x.bound(0, 1, 0), 0);
        due("allocations(0, -1)", x.allocations(0, -1), 0);
        due("allocations(0, 0)", x.allocations(0, 0), MISSING);
        due("bound(0, 1, 8) brings none back", x.bound(0, 1, 8), 0);
        due("allocations: 013, 022, 031, 040", x.allocations(0, -1), 4);
        due("bound(1, 0, 8)", x.bound(1, 0, 8), 1);
    }

    private static void tie() {
        promise = "6 tie";
        FieldMixtures x = new FieldMixtures();
        due("tie(-1)", x.tie(-1), INVALID);
        due("tie(3)", x.tie(3), INVALID);
        due("tie(MIN)", x.tie(Integer.MIN_VALUE), INVALID);
        due("states after errors", x.count(9), 0);
        due("a draw", x.gains(112, 112), 1000);
        due("tie(1)", x.tie(1), 0);
        due("all to the player 0", x.gains(112, 112), 1003);
        due("tie(2)", x.tie(2), 1);
        due("all to the player 1", x.gains(112, 112), 997);
        due("tie(0)", x.tie(0), 2);
        due("each is a change", x.count(9), 3);
    }

    private static void allocations() {
        promise = "7 allocations";
        FieldMixtures x = new FieldMixtures();
        due("allocations(-1, 0)", x.allocations(-1, 0), INVALID);
        due("allocations(2, 0)", x.allocations(2, 0), INVALID);
        due("allocations(0, -2)", x.allocations(0, -2), INVALID);
        due("allocations(0, MIN)", x.allocations(0, Integer.MIN_VALUE), INVALID);
        due("allocations(0, MAX)", x.allocations(0, Integer.MAX_VALUE), MISSING);
        int[] all = {4, 13, 22, 31, 40, 103, 112, 121, 130, 202, 211, 220, 301, 310, 400};
        for (int index = 0; index < all.length; index++) {
            due("allocations(1, " + index + ")", x.allocations(1, index), all[index]);
        }
        due("allocations(1, 15)", x.allocations(1, 15), MISSING);
        x.fields(2);
        x.resources(0, 1);
        due("of two fields", x.allocations(0, -1), 2);
        due("the first", x.allocations(0, 0), 1);
        due("the second", x.allocations(0, 1), 10);
        x.fields(4);
        x.resources(0, 8);
        x.bound(0, 3, 0);
        due("of four fields, 3 of them free", x.allocations(0, -1), 45);
        due("the first", x.allocations(0, 0), 80);
        due("the last", x.allocations(0, 44), 8000);
        due("the other player", x.allocations(1, -1), 35);
        x.bound(0, 3, 8);
        due("all that can be", x.allocations(0, -1), 165);
        x.resources(0, 0);
        due("of no resources", x.allocations(0, -1), 1);
        due("that one", x.allocations(0, 0), 0);
    }

    private static void gains() {
        promise = "8 gains";
        FieldMixtures x = new FieldMixtures();
        due("gains(-4, 4)", x.gains(-4, 4), INVALID);
        due("gains(4, -4)", x.gains(4, -4), INVALID);
        due("gains(5, 4)", x.gains(5, 4), INVALID);
        due("gains(4, 3)", x.gains(4, 3), INVALID);
        due("gains(4000, 4)", x.gains(4000, 4), INVALID);
        due("gains(4, 1003)", x.gains(4, 1003), INVALID);
        due("gains(MIN, MAX)", x.gains(Integer.MIN_VALUE, Integer.MAX_VALUE), INVALID);
        x.value(0, 9);
        x.value(1, 5);
        x.value(2, 2);
        due("gains(400, 22)", x.gains(400, 22), 1002);
        due("gains(22, 400)", x.gains(22, 400), 998);
        due("gains(121, 211)", x.gains(121, 211), 996);
        x.tie(1);
        due("gains(121, 211) by the rule 1", x.gains(121, 211), 998);
        x.tie(2);
        due("gains(121, 211) by the rule 2", x.gains(121, 211), 994);
        x.resources(1, 5);
        due("4 is none of the player 1 now", x.gains(4, 4), INVALID);
        due("gains(4, 5)", x.gains(4, 5), 984);
        due("5 is none of the player 0", x.gains(5, 5), INVALID);
        x.bound(0, 2, 3);
        due("above the bound", x.gains(4, 5), INVALID);
        x.fields(4);
        for (int field = 0; field < 4; field++) {
            x.value(field, 9);
        }
        due("gains(4, 1112)", x.gains(4, 1112), 982);
        x.resources(0, 0);
        x.resources(1, 0);
        x.tie(2);
        due("most that can be lost", x.gains(0, 0), 964);
        x.tie(1);
        due("most that can be won", x.gains(0, 0), 1036);
    }

    private static void better() {
        promise = "9 better";
        FieldMixtures x = new FieldMixtures();
        due("better(-1, 4)", x.better(-1, 4), INVALID);
        due("better(2, 4)", x.better(2, 4), INVALID);
        due("better(0, 5)", x.better(0, 5), INVALID);
        due("better(0, -4)", x.better(0, -4), INVALID);
        due("better(0, 4)", x.better(0, 4), 13);
        due("better(1, 400)", x.better(1, 400), 211);
        due("better(0, 112)", x.better(0, 112), MISSING);
        x.fields(2);
        x.resources(1, 0);
        // Against 0, 0 each of 13, 22, 31 wins both fields; 04 and 40 win one and draw the other.
        due("better(0, 4) against no resources", x.better(0, 4), 13);
        due("better(0, 40)", x.better(0, 40), 13);
        due("as good is not better", x.better(0, 22), MISSING);
        due("one allocation alone", x.better(1, 0), MISSING);
        x.tie(1);
        due("all win all", x.better(0, 4), MISSING);
        x.tie(0);
        x.resources(1, 1);
        x.bound(1, 0, 0);
        x.bound(1, 1, 0);
        due("the other player has none", x.better(0, 4), MISSING);
        x.resources(1, 2);
        x.bound(1, 1, 8);
        x.value(0, 5);
        // Only 0, 2 is against them: 13 and 22 win the dear field, 13 loses the other one.
        due("better(0, 4)", x.better(0, 4), 13);
        due("better(0, 31)", x.better(0, 31), 13);
        due("better(0, 13)", x.better(0, 13), MISSING);
        due("it is no change", x.count(9), 4);
    }

    private static void put() {
        promise = "10 put";
        FieldMixtures x = new FieldMixtures();
        due("put(-1, 4, 1)", x.put(-1, 4, 1), INVALID);
        due("put(2, 4, 1)", x.put(2, 4, 1), INVALID);
        due("put(0, 5, 1)", x.put(0, 5, 1), INVALID);
        due("put(0, 4, 0)", x.put(0, 4, 0), INVALID);
        due("put(0, 4, 100)", x.put(0, 4, 100), INVALID);
        due("put(0, 4, MIN)", x.put(0, 4, Integer.MIN_VALUE), INVALID);
        due("states after errors", x.count(9), 0);
        due("put(0, 220, 99)", x.put(0, 220, 99), 0);
        due("put(0, 220, 7)", x.put(0, 220, 7), 99);
        due("put(0, 220, 7) again", x.put(0, 220, 7), 7);
        due("put(0, 4, 1)", x.put(0, 4, 1), 0);
        due("the same again is a change too", x.count(9), 4);
        due("in order: 4", x.mixtureOf(0, 0, 0), 4);
        due("in order: 220", x.mixtureOf(0, 1, 0), 220);
        due("the other mixture", x.count(6), 0);
        x = new FieldMixtures();
        fillMixture(x, 1, 12, 3);
        due("12 allocations", x.count(6), 12);
        due("a 13th one", x.put(1, 301, 1), LIMIT);
        due("one of the 12", x.put(1, 4, 8), 3);
        due("no allocation, rather than the limit", x.put(1, 5, 1), INVALID);
        due("no weight, rather than the limit", x.put(1, 301, 0), INVALID);
        due("12 still", x.count(6), 12);
        due("the other player may", x.put(0, 301, 1), 0);
    }

    private static void take() {
        promise = "11 take";
        FieldMixtures x = new FieldMixtures();
        due("take(-1, 4)", x.take(-1, 4), INVALID);
        due("take(2, 4)", x.take(2, 4), INVALID);
        due("take(0, 5)", x.take(0, 5), INVALID);
        due("take(0, 4)", x.take(0, 4), IMPOSSIBLE);
        due("states after errors", x.count(9), 0);
        fillMixture(x, 0, 12, 6);
        x.put(0, 22, 9);
        due("take(0, 22)", x.take(0, 22), 9);
        due("take(0, 22) again", x.take(0, 22), IMPOSSIBLE);
        due("take(1, 4) of the other one", x.take(1, 4), IMPOSSIBLE);
        due("11 left", x.count(5), 11);
        due("the one ahead", x.mixtureOf(0, 1, 0), 13);
        due("the one behind", x.mixtureOf(0, 2, 0), 31);
        due("the last one", x.mixtureOf(0, 10, 0), 220);
        due("no 12th one", x.mixtureOf(0, 11, 0), MISSING);
        due("it is a change", x.undo(), 3);
        due("it is back", x.mixtureOf(0, 2, 1), 9);
    }

    private static void round() {
        promise = "12 round";
        FieldMixtures x = new FieldMixtures();
        due("round(0)", x.round(0), INVALID);
        due("round(21)", x.round(21), INVALID);
        due("round(MIN)", x.round(Integer.MIN_VALUE), INVALID);
        due("round(1)", x.round(1), IMPOSSIBLE);
        x.put(0, 4, 1);
        due("round(1) with one mixture", x.round(1), IMPOSSIBLE);
        due("round(0), INVALID rather", x.round(0), INVALID);
        x.fields(2);
        x.put(0, 4, 1);
        x.put(1, 40, 1);
        due("states", x.count(9), 4);
        // All gain 0, as each wins one field and loses the other one, or draws both: 04 is the first.
        due("reply(0, 0)", x.reply(0, 0), 4);
        due("reply(1, 0)", x.reply(1, 0), 4);
        due("round(1)", x.round(1), 3);
        due("a reply that was there", x.mixtureOf(0, 0, 1), 2);
        due("a reply that comes", x.mixtureOf(1, 0, 0), 4);
        due("its weight", x.mixtureOf(1, 0, 1), 1);
        due("the old one", x.mixtureOf(1, 1, 1), 1);
        due("one change", x.undo(), 3);
        due("undone", x.count(8), 1);
        x = new FieldMixtures();
        x.fields(2);
        x.resources(0, 1);
        x.resources(1, 1);
        x.value(0, 3);
        x.put(0, 1, 1);
        x.put(1, 1, 1);
        // Each replies 10 all the time: it wins the dear field of 01, and draws 10.
        due("round(20)", x.round(20), 4);
        due("weight of 10, 0", x.mixtureOf(0, 1, 1), 20);
        due("weight of 10, 1", x.mixtureOf(1, 1, 1), 20);
        due("undo() of all 20", x.undo(), 3);
        due("count(7)", x.count(7), 1);
        due("count(8)", x.count(8), 1);
        repliesAtOnce();
    }

    /** With the tie rule 1 the player 0 copies the other one, who goes where the player 0 is not. */
    private static void repliesAtOnce() {
        promise = "12 round, both at once";
        FieldMixtures x = new FieldMixtures();
        x.fields(2);
        x.tie(1);
        x.resources(0, 1);
        x.resources(1, 1);
        x.put(0, 10, 1);
        x.put(1, 10, 1);
        // 0 replies 10 (wins both), 1 replies 01 to 10 (wins one, loses one), not to the two tens.
        due("round(1)", x.round(1), 3);
        due("mixture 0", x.mixtureOf(0, 0, 1), 2);
        due("mixture 1, first", x.mixtureOf(1, 0, 0), 1);
        // 0 has 10*2, 1 has 01 and 10: 0 gains 1 by each, 01 is first; 1 goes on with 01.
        due("round(1) again", x.round(1), 4);
        due("mixture 0, 01", x.mixtureOf(0, 0, 1), 1);
        due("mixture 0, 10", x.mixtureOf(0, 1, 1), 2);
        due("mixture 1, 01", x.mixtureOf(1, 0, 1), 2);
        // 1 sees 01 and 10*2, so 01.
        due("round(1) once more", x.round(1), 4);
        due("mixture 1, 01 once more", x.mixtureOf(1, 0, 1), 3);
        // 1 sees 01*2 and 10*2: 01 is the first of both. If it saw the reply 01 of 0 too, it would go to 10.
        due("round(1), the fourth", x.round(1), 4);
        due("mixture 1, 01 at the fourth", x.mixtureOf(1, 0, 1), 4);
        due("mixture 1, 10 at the fourth", x.mixtureOf(1, 1, 1), 1);
    }

    private static void roundLimits() {
        promise = "12 round, limits";
        FieldMixtures x = new FieldMixtures();
        x.fields(2);
        x.resources(0, 1);
        x.resources(1, 1);
        x.value(0, 3);
        x.put(0, 10, 97);
        x.put(1, 10, 90);
        int states = x.count(9);
        due("round(3) would make a weight of 100", x.round(3), LIMIT);
        due("weight 0", x.count(7), 97);
        due("weight 1", x.count(8), 90);
        due("states", x.count(9), states);
        due("round(2)", x.round(2), 2);
        due("a weight of 99", x.count(7), 99);
        due("round(1)", x.round(1), LIMIT);
        x.put(0, 10, 1);
        x.put(1, 10, 99);
        due("round(1) of the other one", x.round(1), LIMIT);
        due("the first one's stays", x.count(7), 1);
        x = new FieldMixtures();
        x.value(0, 9);
        fillMixture(x, 0, 12, 1);
        x.put(1, 4, 1);
        // Against 004 the first that wins fields 0 and 1 is 112, which is there: only player 1 gets one more.
        due("reply(0, 0)", x.reply(0, 0), 112);
        due("round(1)", x.round(1), 14);
        x.put(1, 4, 50);
        x.take(0, 112);
        x.put(0, 400, 1);
        due("112 would be the 13th", x.round(1), LIMIT);
        due("count(5)", x.count(5), 12);
        due("count(7)", x.count(7), 12);
    }

    private static void mixtureOf() {
        promise = "13 mixtureOf";
        FieldMixtures x = new FieldMixtures();
        due("mixtureOf(-1, 0, 0)", x.mixtureOf(-1, 0, 0), INVALID);
        due("mixtureOf(2, 0, 0)", x.mixtureOf(2, 0, 0), INVALID);
        due("mixtureOf(0, -1, 0)", x.mixtureOf(0, -1, 0), INVALID);
        due("mixtureOf(0, 0, -1)", x.mixtureOf(0, 0, -1), INVALID);
        due("mixtureOf(0, 0, 4)", x.mixtureOf(0, 0, 4), INVALID);
        due("mixtureOf(0, MIN, 0)", x.mixtureOf(0, Integer.MIN_VALUE, 0), INVALID);
        due("mixtureOf(0, 0, 0)", x.mixtureOf(0, 0, 0), MISSING);
        due("mixtureOf(0, 0, 1)", x.mixtureOf(0, 0, 1), MISSING);
        due("mixtureOf(0, 0, 2)", x.mixtureOf(0, 0, 2), IMPOSSIBLE);
        due("mixtureOf(0, MAX, 3)", x.mixtureOf(0, Integer.MAX_VALUE, 3), IMPOSSIBLE);
        x.put(0, 400, 5);
        x.put(0, 22, 6);
        x.put(0, 112, 7);
        int[][] all = {{22, 6}, {112, 7}, {400, 5}};
        for (int index = 0; index < 3; index++) {
            due("allocation " + index, x.mixtureOf(0, index, 0), all[index][0]);
            due("weight " + index, x.mixtureOf(0, index, 1), all[index][1]);
            due("gain " + index, x.mixtureOf(0, index, 2), IMPOSSIBLE);
        }
        due("mixtureOf(0, 3, 0)", x.mixtureOf(0, 3, 0), MISSING);
        due("mixtureOf(1, 0, 2), the other has some", x.mixtureOf(1, 0, 2), MISSING);
        x.put(1, 13, 1);
        x.put(1, 310, 3);
        x.value(0, 4);
        // 022 against 013: draw, win 1, lose 1; against 310: lose 4, win 1, win 1: (0 - 2 * 3) / 4.
        due("gain of 022", x.mixtureOf(0, 0, 2), ZERO - 3);
        due("its lower part", x.mixtureOf(0, 0, 3), 2);
        // 400 against 013: 4 - 2; against 310: 4 - 1: (2 + 9) / 4.
        due("gain of 400", x.mixtureOf(0, 2, 2), ZERO + 11);
        due("its lower part", x.mixtureOf(0, 2, 3), 4);
        // 310 against 022 * 6: 4 - 2; 112 * 7: 4 - 1 and a draw; 400 * 5: -4 + 1: (12 + 21 - 15) / 18.
        due("gain of 310 of the player 1", x.mixtureOf(1, 1, 2), ZERO + 1);
        due("its lower part", x.mixtureOf(1, 1, 3), 1);
        due("a gain that is not there", x.mixtureOf(0, 3, 2), MISSING);
    }

    private static void marginal() {
        promise = "14 marginal";
        FieldMixtures x = new FieldMixtures();
        due("marginal(-1, 0, 0)", x.marginal(-1, 0, 0), INVALID);
        due("marginal(2, 0, 0)", x.marginal(2, 0, 0), INVALID);
        due("marginal(0, -1, 0)", x.marginal(0, -1, 0), INVALID);
        due("marginal(0, 3, 0)", x.marginal(0, 3, 0), INVALID);
        due("marginal(0, 0, -1)", x.marginal(0, 0, -1), INVALID);
        due("marginal(0, 0, 9)", x.marginal(0, 0, 9), INVALID);
        due("marginal(0, 2, 8) of none", x.marginal(0, 2, 8), 0);
        x.put(0, 4, 99);
        x.put(0, 22, 50);
        x.put(0, 202, 7);
        x.put(1, 40, 8);
        due("0 in field 0", x.marginal(0, 0, 0), 149);
        due("2 in field 0", x.marginal(0, 0, 2), 7);
        due("2 in field 1", x.marginal(0, 1, 2), 50);
        due("2 in field 2", x.marginal(0, 2, 2), 57);
        due("4 in field 2", x.marginal(0, 2, 4), 99);
        due("1 in field 2", x.marginal(0, 2, 1), 0);
        due("4 in field 1 of the player 1", x.marginal(1, 1, 4), 8);
        x.fields(2);
        due("a field that is not there now", x.marginal(0, 2, 0), INVALID);
        x.resources(1, 8);
        x.put(1, 80, 9);
        due("8 in field 0", x.marginal(1, 0, 8), 9);
    }

    private static void mean() {
        promise = "15 mean";
        FieldMixtures x = new FieldMixtures();
        due("mean(-1, 0, 0)", x.mean(-1, 0, 0), INVALID);
        due("mean(2, 0, 0)", x.mean(2, 0, 0), INVALID);
        due("mean(0, -1, 0)", x.mean(0, -1, 0), INVALID);
        due("mean(0, 3, 0)", x.mean(0, 3, 0), INVALID);
        due("mean(0, 0, -1)", x.mean(0, 0, -1), INVALID);
        due("mean(0, 0, 2)", x.mean(0, 0, 2), INVALID);
        due("mean(0, 0, 0)", x.mean(0, 0, 0), IMPOSSIBLE);
        due("mean(0, 3, 0), INVALID rather", x.mean(0, 3, 0), INVALID);
        x.put(0, 13, 4);
        x.put(0, 31, 2);
        due("mean(1, 0, 0) of the other one", x.mean(1, 0, 0), IMPOSSIBLE);
        due("of field 0", x.mean(0, 0, 0), ZERO);
        due("its lower part", x.mean(0, 0, 1), 1);
        due("of field 1", x.mean(0, 1, 0), ZERO + 5);
        due("its lower part", x.mean(0, 1, 1), 3);
        due("of field 2", x.mean(0, 2, 0), ZERO + 7);
        due("its lower part", x.mean(0, 2, 1), 3);
    }

    private static void expected() {
        promise = "16 expected";
        FieldMixtures x = new FieldMixtures();
        due("expected(-1)", x.expected(-1), INVALID);
        due("expected(2)", x.expected(2), INVALID);
        due("expected(0)", x.expected(0), IMPOSSIBLE);
        x.put(0, 4, 1);
        due("expected(0) with one", x.expected(0), IMPOSSIBLE);
        due("expected(1) with one", x.expected(1), IMPOSSIBLE);
        x.put(0, 400, 2);
        x.put(1, 13, 3);
        // 004 against 013: a draw, a loss, a win: 0. 400 against 013: 1 - 2: -1. So -2/3.
        due("expected(0)", x.expected(0), ZERO - 2);
        due("expected(1)", x.expected(1), 3);
        x.put(1, 220, 1);
        // Against 220: 004: -2 + 1; 400: 1 - 1. (1 * 3 * 0 + 1 * 1 * -1 + 2 * 3 * -1 + 0) / 12.
        due("expected(0)", x.expected(0), ZERO - 7);
        due("expected(1)", x.expected(1), 12);
        x.tie(1);
        // Draws are won now: 004 against 013: 1; 400 against 013: -1; against 220: 004 -1; 400: 1 - 1 + 1.
        due("expected(0) by the rule 1", x.expected(0), ZERO - 1);
        due("expected(1) by the rule 1", x.expected(1), 6);
        x = new FieldMixtures();
        x.put(0, 4, 6);
        x.put(1, 400, 4);
        due("0 is 0/1", x.expected(0), ZERO);
        due("0 is 0/1", x.expected(1), 1);
    }

    private static void reply() {
        promise = "17 reply";
        FieldMixtures x = new FieldMixtures();
        due("reply(-1, 0)", x.reply(-1, 0), INVALID);
        due("reply(2, 0)", x.reply(2, 0), INVALID);
        due("reply(0, -1)", x.reply(0, -1), INVALID);
        due("reply(0, 4)", x.reply(0, 4), INVALID);
        for (int what = 0; what < 4; what++) {
            due("reply(0, " + what + ")", x.reply(0, what), IMPOSSIBLE);
        }
        x.put(1, 220, 3);
        due("reply(1, 0): the other mixture has none", x.reply(1, 0), IMPOSSIBLE);
        // Two fields can be won against 220 by 3 and 1 alone: 031, 301; 1 - 0 + 1.
        due("reply(0, 0)", x.reply(0, 0), 31);
        due("reply(0, 1)", x.reply(0, 1), ZERO + 1);
        due("reply(0, 2)", x.reply(0, 2), 1);
        due("reply(0, 3)", x.reply(0, 3), 2);
        x.value(0, 9);
        due("the dear field", x.reply(0, 0), 301);
        due("its gain", x.reply(0, 1), ZERO + 9);
        due("alone", x.reply(0, 3), 1);
        x.put(1, 400, 2);
        // 301: 9 against 220 (3), -9 + 1 against 400 (2): 11. 031: -9 + 1 + 1 = -7, -21 and -14. 400: 9 - 1, 0.
        due("400 now", x.reply(0, 0), 400);
        due("its gain", x.reply(0, 1), ZERO + 24);
        due("its lower part", x.reply(0, 2), 5);
        x.bound(0, 0, 0);
        x.bound(0, 1, 0);
        x.bound(0, 2, 3);
        due("the player has no allocation", x.reply(0, 0), IMPOSSIBLE);
        x.resources(0, 0);
        // 000 loses 10 against 220 and draws one; loses 9 against 400: (-30 - 18) / 5.
        due("one allocation alone", x.reply(0, 0), 0);
        due("a gain below 0", x.reply(0, 1), ZERO - 48);
        due("its lower part", x.reply(0, 2), 5);
        due("how many", x.reply(0, 3), 1);
    }

    private static void could() {
        promise = "18 could";
        FieldMixtures x = new FieldMixtures();
        due("could(-1, 0)", x.could(-1, 0), INVALID);
        due("could(2, 0)", x.could(2, 0), INVALID);
        due("could(0, -1)", x.could(0, -1), INVALID);
        due("could(0, 2)", x.could(0, 2), INVALID);
        due("could(0, 0)", x.could(0, 0), IMPOSSIBLE);
        x.put(0, 400, 1);
        due("could(0, 0) with one mixture", x.could(0, 0), IMPOSSIBLE);
        due("could(1, 1) with one mixture", x.could(1, 1), IMPOSSIBLE);
        x.put(0, 31, 2);
        x.put(1, 220, 1);
        // 400 gains 0, 031 gains 1: 2/3 expected; 1 is the best.
        due("could(0, 0)", x.could(0, 0), ZERO + 1);
        due("could(0, 1)", x.could(0, 1), 3);
        // The player 1 gains -2/3 so far; 112 gains -1 + 1 + 1 against 400, 1 - 1 + 1 against 031: 1.
        due("reply(1, 1)", x.reply(1, 1), ZERO + 1);
        due("could(1, 0)", x.could(1, 0), ZERO + 5);
        due("could(1, 1)", x.could(1, 1), 3);
        x.take(0, 400);
        due("no more", x.could(0, 0), ZERO);
        due("0 is 0/1", x.could(0, 1), 1);
    }

    /** Weights of 1187 and 1181, both prime, so that nothing is divided away; the plain model tells what is due. */
    private static void largestFractions() {
        promise = "13 to 18, large";
        for (int rule = 0; rule < 3; rule++) {
            FieldMixtures x = new FieldMixtures();
            PlainModel model = new PlainModel();
            x.fields(4);
            model.fields(4);
            for (int field = 0; field < 4; field++) {
                x.value(field, 9);
                model.value(field, 9);
            }
            x.tie(rule);
            model.tie(rule);
            for (int player = 0; player < 2; player++) {
                x.resources(player, 8 - player);
                model.resources(player, 8 - player);
                for (int index = 0; index < 12; index++) {
                    int allocation = x.allocations(player, index * (player == 0 ? 13 : 9));
                    int weight = index < 11 ? 99 : 98 - 6 * player;
                    x.put(player, allocation, weight);
                    model.put(player, allocation, weight);
                }
            }
            due("weight 0", x.count(7), 1187);
            due("weight 1", x.count(8), 1181);
            sameFractions(x, model);
        }
    }

    private static void sameFractions(FieldMixtures x, PlainModel model) {
        for (int part = 0; part < 2; part++) {
            due("expected", x.expected(part), model.expected(part));
            for (int player = 0; player < 2; player++) {
                due("could", x.could(player, part), model.could(player, part));
                due("reply", x.reply(player, part + 1), model.reply(player, part + 1));
                for (int field = 0; field < 4; field++) {
                    due("mean", x.mean(player, field, part), model.mean(player, field, part));
                }
                for (int index = 0; index < 12; index++) {
                    due("mixtureOf", x.mixtureOf(player, index, part + 2), model.mixtureOf(player, index, part + 2));
                }
            }
        }
        due("the lower part is whole", x.could(0, 1) % 1187, 0);
    }

    private static void count() {
        promise = "19 count";
        FieldMixtures x = new FieldMixtures();
        int[] wrong = {Integer.MIN_VALUE, -1, 11, 19, 23, 24, 29, 33, 39, 43, 49, 50, 120, Integer.MAX_VALUE};
        for (int what : wrong) {
            due("count(" + what + ")", x.count(what), INVALID);
        }
        x.fields(4);
        x.value(3, 7);
        x.bound(0, 3, 5);
        x.bound(1, 2, 6);
        x.resources(0, 2);
        x.resources(1, 3);
        x.tie(1);
        x.put(0, 2, 10);
        x.put(0, 20, 11);
        x.put(1, 3, 12);
        write(x, "abc");
        int[] due = {4, 10, 1, 2, 3, 2, 1, 21, 12, 4, 3};
        for (int what = 0; what < due.length; what++) {
            due("count(" + what + ")", x.count(what), due[what]);
        }
        int[] values = {1, 1, 1, 7};
        int[] firsts = {8, 8, 8, 5};
        int[] seconds = {8, 8, 6, 8};
        for (int field = 0; field < 4; field++) {
            due("value", x.count(20 + field), values[field]);
            due("bound of 0", x.count(30 + field), firsts[field]);
            due("bound of 1", x.count(40 + field), seconds[field]);
        }
        due("count(24)", x.count(24), INVALID);
        due("count(34)", x.count(34), INVALID);
        due("count(44)", x.count(44), INVALID);
        x.fields(2);
        due("count(21)", x.count(21), 1);
        due("count(22)", x.count(22), INVALID);
        due("count(1) of two fields", x.count(1), 2);
    }

    private static void undo() {
        promise = "20 undo";
        FieldMixtures x = new FieldMixtures();
        due("undo()", x.undo(), IMPOSSIBLE);
        x.put(0, 4, 1);
        x.put(0, 13, 2);
        x.put(1, 22, 3);
        x.tie(2);
        x.value(0, 5);
        due("4 states at most", x.count(9), 4);
        x.resources(0, 5);
        due("undo() of resources", x.undo(), 3);
        due("resources", x.count(3), 4);
        due("mixture", x.count(5), 2);
        due("weight", x.count(7), 3);
        due("undo() of value", x.undo(), 2);
        due("value", x.count(20), 1);
        due("undo() of tie", x.undo(), 1);
        due("tie", x.count(2), 0);
        due("undo() of put", x.undo(), 0);
        due("mixture 1", x.count(6), 0);
        due("mixture 0", x.count(5), 2);
        due("undo() of no more", x.undo(), IMPOSSIBLE);
        due("mixture 0 stays", x.count(5), 2);
        due("undo() is no change", x.count(9), 0);
        x = new FieldMixtures();
        x.bound(1, 2, 3);
        x.fields(2);
        due("undo() of fields", x.undo(), 1);
        due("bound", x.count(42), 3);
        due("fields", x.count(0), 3);
        write(x, "0:");
        x.tie(1);
        write(x, "4");
        due("undo()", x.undo(), 1);
        due("the text stays", x.count(10), 3);
        due("a text is not undone", x.undo(), 0);
        due("the text stays", x.count(10), 3);
    }

    /** What changes and what does not; a call with an error changes nothing. */
    private static void changesAndErrors() {
        promise = "changes and errors";
        FieldMixtures x = new FieldMixtures();
        x.put(0, 4, 1);
        x.put(1, 4, 1);
        int states = x.count(9);
        x.allocations(0, -1);
        x.gains(4, 4);
        x.better(0, 4);
        x.mixtureOf(0, 0, 2);
        x.marginal(0, 0, 0);
        x.mean(0, 0, 0);
        x.expected(0);
        x.reply(0, 0);
        x.could(0, 0);
        x.count(0);
        x.type('0');
        x.fault(0);
        x.clearText();
        due("no change", x.count(9), states);
        x.take(0, 13);
        x.put(0, 4, 100);
        x.round(0);
        x.type('x');
        due("read()", x.read(), IMPOSSIBLE);
        due("no change by errors", x.count(9), states);
        x.clearText();
        x.read();
        due("read() of an empty text is one", x.count(9), states + 1);
        due("it leaves the mixtures", x.count(5), 1);
    }

    private static void type() {
        promise = "21 type";
        FieldMixtures x = new FieldMixtures();
        due("type(31)", x.type(31), INVALID);
        due("type(127)", x.type(127), INVALID);
        due("type(-1)", x.type(-1), INVALID);
        due("type(65584)", x.type(65584), INVALID);
        due("type(MIN)", x.type(Integer.MIN_VALUE), INVALID);
        due("nothing came", x.count(10), 0);
        due("type(32)", x.type(32), 1);
        due("type(126)", x.type(126), 2);
        for (int length = 3; length <= 80; length++) {
            due("type(48)", x.type(48), length);
        }
        due("type(48) at 80", x.type(48), LIMIT);
        due("type(31) at 80", x.type(31), INVALID);
        due("80 still", x.count(10), 80);
        due("no change", x.count(9), 0);
        x = new FieldMixtures();
        write(x, "0:004;0:004;0:004;0:004;0:004;0:004;0:004;0:004;0:004;0:004;0:004;0:004;0:004*7;");
        due("a text of 80", x.count(10), 80);
        due("read()", x.read(), 1);
        due("its last part counts", x.count(7), 7);
    }

    private static void clearText() {
        promise = "22 clearText";
        FieldMixtures x = new FieldMixtures();
        due("clearText()", x.clearText(), 0);
        write(x, "0:00");
        due("clearText()", x.clearText(), 4);
        due("count(10)", x.count(10), 0);
        due("clearText() again", x.clearText(), 0);
        write(x, ";");
        due("what was there is gone", x.fault(2), 0);
        due("the new length", x.clearText(), 1);
        due("no change", x.count(9), 0);
    }

    private static void faultIs(FieldMixtures x, String text, int position, int reason, int cause) {
        rewrite(x, text);
        due(text + " position", x.fault(0), position);
        due(text + " reason", x.fault(1), reason);
        due(text + " cause", x.fault(2), cause);
        due(text + " read()", x.read(), reason == MISSING ? x.count(5) + x.count(6) : IMPOSSIBLE);
    }

    private static void faultOfForm() {
        promise = "23 fault, reason 1";
        FieldMixtures x = new FieldMixtures();
        due("fault(-1)", x.fault(-1), INVALID);
        due("fault(3)", x.fault(3), INVALID);
        due("fault(MIN)", x.fault(Integer.MIN_VALUE), INVALID);
        for (int what = 0; what < 3; what++) {
            due("of an empty text", x.fault(what), MISSING);
        }
        faultIs(x, ";", 0, 1, 0);
        faultIs(x, "2:004;", 0, 1, 0);
        faultIs(x, " 0:004;", 0, 1, 0);
        faultIs(x, "0", 0, 1, 1);
        faultIs(x, "0;", 0, 1, 1);
        faultIs(x, "00:004;", 0, 1, 1);
        faultIs(x, "0:", 0, 1, 2);
        faultIs(x, "0:04;", 0, 1, 4);
        faultIs(x, "0:0-4;", 0, 1, 3);
        faultIs(x, "0:0/4;", 0, 1, 3);
        faultIs(x, "0:0:4;", 0, 1, 3);
        faultIs(x, "0:00", 0, 1, 4);
        faultIs(x, "0:004", 0, 1, 5);
        faultIs(x, "0:0004;", 0, 1, 5);
        faultIs(x, "0:004 ;", 0, 1, 5);
        faultIs(x, "0:004*", 0, 1, 6);
        faultIs(x, "0:004*;", 0, 1, 6);
        faultIs(x, "0:004**1;", 0, 1, 6);
        faultIs(x, "0:004*1", 0, 1, 7);
        faultIs(x, "0:004*1x", 0, 1, 7);
        faultIs(x, "0:004*12", 0, 1, 8);
        faultIs(x, "0:004*123;", 0, 1, 8);
        faultIs(x, "0:004*1*2;", 0, 1, 7);
        faultIs(x, "0:004;0:004*12;;", 15, 1, 0);
        faultIs(x, "0:004;1:00", 6, 1, 4);
        faultIs(x, "0:004;1:004*05;1:4;0:5;", 15, 1, 3);
        x.fields(2);
        faultIs(x, "0:004;", 0, 1, 4);
        x.fields(4);
        faultIs(x, "0:004;", 0, 1, 5);
    }

    private static void faultOfContent() {
        promise = "23 fault, reason 2";
        FieldMixtures x = new FieldMixtures();
        faultIs(x, "0:005;", 0, 2, MISSING);
        faultIs(x, "0:999;", 0, 2, MISSING);
        faultIs(x, "0:004*0;", 0, 2, MISSING);
        faultIs(x, "0:004*00;", 0, 2, MISSING);
        faultIs(x, "1:004;0:013*0;", 6, 2, MISSING);
        faultIs(x, "0:005*1x;", 0, 1, 7);
        faultIs(x, "0:005;;", 0, 2, MISSING);
        x.resources(1, 5);
        faultIs(x, "0:004;1:004;", 6, 2, MISSING);
        faultIs(x, "0:004;1:005;", MISSING, MISSING, MISSING);
        x.bound(0, 2, 3);
        faultIs(x, "0:004;", 0, 2, MISSING);
    }

    private static void faultOfMixtures() {
        promise = "23 fault, reason 3";
        FieldMixtures x = new FieldMixtures();
        fillMixture(x, 0, 11, 2);
        faultIs(x, "0:220;0:400;", 6, 3, MISSING);
        faultIs(x, "0:220;0:004;0:220*3;1:400;0:310;", 26, 3, MISSING);
        faultIs(x, "0:220;0:401;", 6, 2, MISSING);
        faultIs(x, "0:220;0:400*0;", 6, 2, MISSING);
        faultIs(x, "0:220;0:400", 6, 1, 5);
        due("11 still", x.count(5), 11);
        faultIs(x, "0:400;", MISSING, MISSING, MISSING);
        due("12 now", x.count(5), 12);
        faultIs(x, "0:004*9;0:400;", MISSING, MISSING, MISSING);
        faultIs(x, "0:220;", 0, 3, MISSING);
        x.take(0, 4);
        due("the fault is gone with the one that was taken", x.fault(0), MISSING);
        rewrite(x, "1:004;1:013;1:022;1:031;1:040;1:103;1:112;1:121;1:130;1:202;1:211;1:220;1:301;");
        due("13 in the text, position", x.fault(0), 72);
        due("13 in the text, reason", x.fault(1), 3);
        due("read()", x.read(), IMPOSSIBLE);
        due("nothing came", x.count(6), 0);
    }

    private static void read() {
        promise = "24 read";
        FieldMixtures x = new FieldMixtures();
        due("read() of nothing", x.read(), 0);
        due("a change", x.count(9), 1);
        x.put(0, 13, 50);
        rewrite(x, "0:400*07;1:004;0:013*9;0:022*99;1:004*2;");
        due("read()", x.read(), 4);
        due("one change", x.count(9), 3);
        due("the text stays", x.count(10), 40);
        int[][] all = {{13, 9}, {22, 99}, {400, 7}};
        for (int index = 0; index < 3; index++) {
            due("allocation", x.mixtureOf(0, index, 0), all[index][0]);
            due("weight", x.mixtureOf(0, index, 1), all[index][1]);
        }
        due("the later weight", x.mixtureOf(1, 0, 1), 2);
        due("read() again", x.read(), 4);
        due("undo()", x.undo(), 3);
        due("undo()", x.undo(), 2);
        due("as before", x.count(7), 50);
        due("as before", x.count(6), 0);
        x.resources(1, 3);
        due("read() with a fault", x.read(), IMPOSSIBLE);
        due("nothing of it", x.count(5), 1);
        due("no change", x.count(9), 3);
        rewrite(x, "0:004;");
        due("read() without a weight", x.read(), 2);
        due("the weight is 1", x.mixtureOf(0, 0, 1), 1);
    }
}
