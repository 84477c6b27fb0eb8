import java.util.Locale;

/** The form of the texts sign by sign, the reasons of faults in their order, and what is read at the edges. */
public final class TextsTest {
    private static final Boundary TEST = new Boundary("TextsTest");
    private static final int IMPOSSIBLE = Boundary.IMPOSSIBLE;
    private static final int MISSING = Boundary.MISSING;

    public static void main(String[] args) {
        eachSignAtEachPlace();
        digitsPerField();
        endsTooEarly();
        endsTooLate();
        players();
        eachWeight();
        eachAllocation();
        firstReason();
        firstPart();
        thirteenth();
        thoseAheadAreDone();
        faultOfTheState();
        weightInPlace();
        oneChange();
        TEST.close();
    }

    private static FieldMixtures write(FieldMixtures x, String text) {
        return Boundary.write(x, text);
    }

    private static FieldMixtures rewrite(FieldMixtures x, String text) {
        x.clearText();
        return write(x, text);
    }

    private static FieldMixtures ofFields(int fields) {
        FieldMixtures x = new FieldMixtures();
        x.fields(fields);
        return x;
    }

    /** A fault with the reason 1 at the position, the part breaking off at the cause. */
    private static void breaksOff(FieldMixtures x, String text, int position, int cause) {
        rewrite(x, text);
        TEST.due("'" + text + "' position", x.fault(0), position);
        TEST.due("'" + text + "' reason", x.fault(1), 1);
        TEST.due("'" + text + "' cause", x.fault(2), cause);
        TEST.due("'" + text + "' read()", x.read(), IMPOSSIBLE);
    }

    private static void hasReason(FieldMixtures x, String text, int position, int reason) {
        rewrite(x, text);
        TEST.due("'" + text + "' position", x.fault(0), position);
        TEST.due("'" + text + "' reason", x.fault(1), reason);
        TEST.due("'" + text + "' cause", x.fault(2), MISSING);
        TEST.due("'" + text + "' read()", x.read(), IMPOSSIBLE);
    }

    private static void isGood(FieldMixtures x, String text) {
        rewrite(x, text);
        TEST.due("'" + text + "' position", x.fault(0), MISSING);
        TEST.due("'" + text + "' reason", x.fault(1), MISSING);
        TEST.due("'" + text + "' cause", x.fault(2), MISSING);
    }

    private static boolean isDigit(char sign) {
        return "0123456789".indexOf(sign) >= 0;
    }

    /** The part 0:112*34; with each sign at each place; behind a good part too. */
    private static void eachSignAtEachPlace() {
        TEST.sentence("a digit 0 or 1, \":\", an allocation, \"*\" and a weight, \";\"");
        String part = "0:112*34;";
        String kinds = "p:ddd*ww;";
        for (int place = 0; place < part.length(); place++) {
            for (char sign = 32; sign <= 126; sign++) {
                String text = part.substring(0, place) + sign + part.substring(place + 1);
                placed(text, 0, text, place, kinds.charAt(place), sign);
                placed("1:004;" + text, 6, text, place, kinds.charAt(place), sign);
            }
        }
    }

    private static void placed(String text, int start, String part, int place, char kind, char sign) {
        FieldMixtures x = new FieldMixtures();
        if (kind == 'p' && (sign == '0' || sign == '1') || kind == ':' && sign == ':' || kind == 'w' && isDigit(sign)
                || kind == '*' && sign == '*' || kind == ';' && sign == ';') {
            isGood(x, text);
        } else if (kind == 'd' && isDigit(sign)) {
            if (part.startsWith("0:112")) {
                isGood(x, text);
            } else {
                hasReason(x, text, start, 2);
            }
        } else if (kind == '*' && sign == ';' || kind == 'w' && place == 7 && sign == ';') {
            // The part ends here, and what is left is a part of its own that begins with no player.
            breaksOff(x, text, start + place + 1, 0);
        } else {
            breaksOff(x, text, start, place);
        }
    }

    private static void digitsPerField() {
        TEST.sentence("an allocation, with as many digits as there are fields");
        String[] good = {"", "", "0:04;", "0:004;", "0:0004;"};
        for (int fields = 2; fields <= 4; fields++) {
            FieldMixtures x = ofFields(fields);
            isGood(x, good[fields]);
            breaksOff(x, "0:" + "0".repeat(fields - 2) + "4;", 0, fields + 1);
            breaksOff(x, "0:" + "0".repeat(fields) + "4;", 0, fields + 2);
            breaksOff(x, "0:;", 0, 2);
            breaksOff(x, "0:*1;", 0, 2);
            for (int place = 2; place < fields + 2; place++) {
                for (char sign : new char[] {'/', ':', ';', '*', ' ', '-', 'a'}) {
                    String text = good[fields].substring(0, place) + sign + good[fields].substring(place + 1);
                    breaksOff(x, text, 0, place);
                }
            }
        }
    }

    private static void endsTooEarly() {
        TEST.sentence("of one that the text ends too early it is its length");
        String[] whole = {"", "", "1:22*05;", "0:112*34;", "1:0004*9;"};
        for (int fields = 2; fields <= 4; fields++) {
            String[] ahead = {"", "0:" + "0".repeat(fields - 1) + "4;"};
            for (String first : ahead) {
                for (int length = 1; length < whole[fields].length(); length++) {
                    breaksOff(ofFields(fields), first + whole[fields].substring(0, length), first.length(), length);
                }
                isGood(ofFields(fields), first + whole[fields]);
                isGood(ofFields(fields), first);
            }
        }
    }

    private static void endsTooLate() {
        TEST.sentence("it is not of this form, its \";\" included");
        breaksOff(new FieldMixtures(), ";", 0, 0);
        breaksOff(new FieldMixtures(), "0:004;;", 6, 0);
        breaksOff(new FieldMixtures(), "0:004,1:004;", 0, 5);
        breaksOff(new FieldMixtures(), "0:0041:004;", 0, 5);
        breaksOff(new FieldMixtures(), "0:004*1 ;", 0, 7);
        breaksOff(new FieldMixtures(), "0:004 *1;", 0, 5);
        breaksOff(new FieldMixtures(), "0:004; ", 6, 0);
        breaksOff(new FieldMixtures(), "0:004; 1:004;", 6, 0);
        breaksOff(new FieldMixtures(), "0 :004;", 0, 1);
        breaksOff(new FieldMixtures(), "0: 004;", 0, 2);
        TEST.sentence("perhaps \"*\" and a weight of 1 or 2 digits");
        breaksOff(new FieldMixtures(), "0:004*;", 0, 6);
        breaksOff(new FieldMixtures(), "0:004*100;", 0, 8);
        breaksOff(new FieldMixtures(), "0:004*001;", 0, 8);
        breaksOff(new FieldMixtures(), "0:004*-1;", 0, 6);
        breaksOff(new FieldMixtures(), "0:004*+1;", 0, 6);
        breaksOff(new FieldMixtures(), "0:004*1*1;", 0, 7);
        breaksOff(new FieldMixtures(), "0:004**;", 0, 6);
    }

    private static void players() {
        TEST.sentence("a digit 0 or 1 (the player)");
        for (char sign = '0'; sign <= '9'; sign++) {
            FieldMixtures x = new FieldMixtures();
            String text = sign + ":004*5;";
            if (sign <= '1') {
                isGood(x, text);
                TEST.due("read()", x.read(), 1);
                TEST.due("of the player", x.count(5 + sign - '0'), 1);
            } else {
                breaksOff(x, text, 0, 0);
            }
        }
        breaksOff(new FieldMixtures(), "/:004;", 0, 0);
        breaksOff(new FieldMixtures(), "-1:004;", 0, 0);
        breaksOff(new FieldMixtures(), "01:004;", 0, 1);
    }

    private static void eachWeight() {
        TEST.sentence("a weight of 1 or 2 digits, 0 ahead allowed (without it 1)");
        FieldMixtures x = new FieldMixtures();
        isGood(x, "0:004;");
        x.read();
        TEST.due("without it", x.mixtureOf(0, 0, 1), 1);
        for (int weight = 0; weight <= 99; weight++) {
            weightIs(String.format(Locale.ROOT, "%02d", weight), weight);
            if (weight <= 9) {
                weightIs(String.valueOf(weight), weight);
            }
        }
    }

    private static void weightIs(String digits, int weight) {
        FieldMixtures x = new FieldMixtures();
        x.put(1, 4, 50);
        String text = "1:004*" + digits + ";";
        if (weight == 0) {
            TEST.sentence("2 the weight is 0");
            hasReason(x, text, 0, 2);
            TEST.due("the weight stays", x.count(8), 50);
            TEST.sentence("a weight of 1 or 2 digits, 0 ahead allowed (without it 1)");
        } else {
            isGood(x, text);
            TEST.due("read() of " + text, x.read(), 1);
            TEST.due("the weight of " + text, x.mixtureOf(1, 0, 1), weight);
        }
    }

    private static void eachAllocation() {
        TEST.sentence("2 it is no allocation of the player");
        for (int fields = 2; fields <= 4; fields++) {
            int end = (int) Math.pow(10, fields);
            for (int number = 0; number < end; number += fields == 4 ? 3 : 1) {
                FieldMixtures x = ofFields(fields);
                x.bound(1, fields - 1, 2);
                String digits = String.format(Locale.ROOT, "%0" + fields + "d", number);
                int sum = digits.chars().map(sign -> sign - '0').sum();
                for (int player = 0; player < 2; player++) {
                    String text = player + ":" + digits + ";";
                    if (sum == 4 && (player == 0 || number % 10 <= 2)) {
                        isGood(x, text);
                    } else {
                        hasReason(x, text, 0, 2);
                    }
                }
            }
        }
        TEST.sentence("2 it is no allocation of the player, that has none");
        hasReason(Boundary.without(0), "0:004;", 0, 2);
        hasReason(Boundary.without(0), "0:000;", 0, 2);
        hasReason(Boundary.without(1), "1:111;", 0, 2);
        isGood(Boundary.without(1), "0:004;");
    }

    private static FieldMixtures with12(int player) {
        return Boundary.fill(new FieldMixtures(), player, 12, 2);
    }

    private static void firstReason() {
        for (int player = 0; player < 2; player++) {
            String p = player + ":";
            TEST.sentence("its reason is the first of these: 1 rather than 2");
            breaksOff(new FieldMixtures(), p + "005", 0, 5);
            breaksOff(new FieldMixtures(), p + "005*", 0, 6);
            breaksOff(new FieldMixtures(), p + "004*0", 0, 7);
            breaksOff(new FieldMixtures(), p + "004*00", 0, 8);
            breaksOff(new FieldMixtures(), p + "004*000;", 0, 8);
            breaksOff(new FieldMixtures(), p + "999x", 0, 5);
            breaksOff(new FieldMixtures(), p + "005*0x", 0, 7);
            TEST.sentence("its reason is the first of these: 1 rather than 3");
            breaksOff(with12(player), p + "400", 0, 5);
            breaksOff(with12(player), p + "400*", 0, 6);
            breaksOff(with12(player), p + "400*1", 0, 7);
            TEST.sentence("its reason is the first of these: 2 rather than 3");
            hasReason(with12(player), p + "401;", 0, 2);
            hasReason(with12(player), p + "400*0;", 0, 2);
            hasReason(with12(player), p + "400*00;", 0, 2);
            TEST.sentence("3 the mixture would have more than 12 allocations");
            hasReason(with12(player), p + "400;", 0, 3);
            hasReason(with12(player), p + "400*99;", 0, 3);
            isGood(with12(player), p + "004*99;");
            isGood(with12(player), (1 - player) + ":400;");
        }
        TEST.sentence("2: of both, no allocation and the weight 0");
        hasReason(new FieldMixtures(), "0:005*0;", 0, 2);
    }

    private static void firstPart() {
        TEST.sentence("The fault of the text is the position, from 0, of the first character of the first part");
        String[] ahead = {"0:004;", "1:400*7;", "0:112*07;"};
        StringBuilder good = new StringBuilder();
        for (int part = 0; part < 9; part++) {
            FieldMixtures x = new FieldMixtures();
            int start = good.length();
            breaksOff(x, good + "0:04;", start, 4);
            hasReason(x, good + "0:005;", start, 2);
            breaksOff(x, good + "0:04;" + "0:005;", start, 4);
            hasReason(x, good + "0:005;" + "0:04;", start, 2);
            hasReason(x, good + "0:005;" + "0:004", start, 2);
            isGood(x, good.toString());
            good.append(ahead[part % 3]);
        }
        TEST.due("the good parts", good.length(), 69);
    }

    private static final int[] ALL = {4, 13, 22, 31, 40, 103, 112, 121, 130, 202, 211, 220, 301, 310, 400};

    /** The parts of the allocations from first to end. */
    private static String parts(int player, int first, int end) {
        StringBuilder text = new StringBuilder();
        for (int index = first; index < end; index++) {
            text.append(String.format(Locale.ROOT, "%d:%03d;", player, ALL[index]));
        }
        return text.toString();
    }

    private static void thirteenth() {
        TEST.sentence("3 the mixture would have more than 12 allocations");
        for (int player = 0; player < 2; player++) {
            for (int there = 0; there <= 12; there++) {
                FieldMixtures x = Boundary.fill(new FieldMixtures(), player, there, 2);
                String twelve = parts(player, there, 12);
                isGood(x, twelve);
                hasReason(x, twelve + parts(player, 12, 13), twelve.length(), 3);
                rewrite(x, twelve);
                TEST.due("read() up to 12 from " + there, x.read(), 12);
                TEST.due("the 12th", x.mixtureOf(player, 11, 0), 220);
                TEST.due("the weights", x.count(7 + player), there * 2 + 12 - there);
                isGood(x, twelve);
            }
        }
        TEST.sentence("3 the mixture: each player has one of his own");
        FieldMixtures x = with12(1);
        isGood(x, parts(0, 0, 12));
        hasReason(x, parts(0, 0, 12) + "1:400;", 72, 3);
    }

    private static void thoseAheadAreDone() {
        TEST.sentence("3: when those ahead of it are done");
        FieldMixtures x = Boundary.fill(new FieldMixtures(), 0, 11, 2);
        isGood(x, "0:400;");
        isGood(x, "0:400;0:400*3;");
        isGood(x, "0:004*9;0:400;");
        isGood(x, "0:400;0:004*9;");
        hasReason(x, "0:400;0:310;", 6, 3);
        hasReason(x, "0:400;0:004;0:310;", 12, 3);
        hasReason(x, "0:400;0:400;1:400;0:310;0:301;", 18, 3);
        rewrite(x, "0:400;0:400*3;");
        TEST.due("read()", x.read(), 12);
        TEST.due("its weight", x.mixtureOf(0, 11, 1), 3);
        TEST.sentence("3: those ahead of it that are no more in the mixture, but in the text");
        x.take(0, 400);
        x.take(0, 4);
        isGood(x, "0:400;0:004;");
        hasReason(x, "0:400;0:310;0:004;", 12, 3);
    }

    private static void faultOfTheState() {
        TEST.sentence("The fault of the text is of the present contest");
        FieldMixtures x = write(new FieldMixtures(), "0:004;1:040;");
        TEST.due("no fault", x.fault(1), MISSING);
        x.bound(1, 1, 3);
        TEST.due("above a bound", x.fault(0), 6);
        TEST.due("above a bound", x.fault(1), 2);
        x.bound(1, 1, 4);
        TEST.due("at the bound", x.fault(1), MISSING);
        x.resources(0, 5);
        TEST.due("other resources", x.fault(0), 0);
        TEST.due("other resources", x.fault(1), 2);
        x.undo();
        TEST.due("undone", x.fault(1), MISSING);
        x.fields(2);
        TEST.due("fewer fields", x.fault(0), 0);
        TEST.due("fewer fields", x.fault(1), 1);
        TEST.due("fewer fields", x.fault(2), 4);
        x.fields(4);
        TEST.due("more fields", x.fault(1), 1);
        TEST.due("more fields", x.fault(2), 5);
        x.fields(3);
        TEST.due("as many again", x.fault(1), MISSING);
        Boundary.fill(x, 1, 4, 1);
        Boundary.fill(x, 1, 12, 1);
        TEST.due("040 is there", x.fault(1), MISSING);
        x.take(1, 40);
        x.put(1, 400, 1);
        TEST.due("12 others", x.fault(1), 3);
        TEST.due("12 others", x.fault(0), 6);
        x.take(1, 400);
        TEST.due("11 others", x.fault(1), MISSING);
    }

    private static void weightInPlace() {
        TEST.sentence("each allocation is put with this weight in place of the one that it may have");
        FieldMixtures x = new FieldMixtures();
        x.put(0, 4, 99);
        x.put(0, 400, 98);
        rewrite(x, "0:004*7;0:112*99;0:112*2;1:004;0:112*50;");
        TEST.due("read()", x.read(), 4);
        TEST.holds("mixture 0", Boundary.mixture(x, 0).equals("4*7 112*50 400*98"));
        TEST.holds("mixture 1", Boundary.mixture(x, 1).equals("4*1"));
        rewrite(x, "0:004;");
        TEST.due("read() without a weight", x.read(), 4);
        TEST.due("1 in place of 7", x.mixtureOf(0, 0, 1), 1);
        TEST.due("read() once more adds nothing", x.read(), 4);
        TEST.due("1 still", x.mixtureOf(0, 0, 1), 1);
    }

    private static void oneChange() {
        TEST.sentence("24: it stays. They are one change, also if there are none");
        for (int many = 0; many <= 12; many++) {
            FieldMixtures x = write(new FieldMixtures(), parts(0, 0, many));
            TEST.due("read() of " + many, x.read(), many);
            TEST.due("states", x.count(9), 1);
            TEST.due("the text", x.count(10), 6 * many);
            TEST.due("undo()", x.undo(), 0);
            TEST.due("the mixture", x.count(5), 0);
            TEST.due("the text", x.count(10), 6 * many);
            TEST.due("read() again", x.read(), many);
            for (int read = 2; read <= 5; read++) {
                TEST.due("read() once more", x.read(), many);
                TEST.due("states", x.count(9), Math.min(read, 4));
            }
        }
    }
}
