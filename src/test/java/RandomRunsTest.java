import java.util.ArrayList;
import java.util.List;

/** Runs of up to 512 calls, made from numbers that are the same at every run, against the plain model. */
public final class RandomRunsTest {
    private static final int RUNS = 1600;
    private static final int CALLS = 512;
    /** The calls of sameState. */
    private static final int LOOKS = 101;
    private static final int[] ODD = {
        Integer.MIN_VALUE, Integer.MIN_VALUE + 1, -1000, -2, -1, 9, 10, 12, 13, 19, 20, 21, 23, 24, 29, 30, 33, 34,
        39, 40, 43, 44, 49, 50, 99, 100, 127, 10000, 10004, 100000, Integer.MAX_VALUE - 1, Integer.MAX_VALUE
    };

    private long seed;
    private FieldMixtures program;
    private PlainModel model;
    private String call;
    private int got;
    private int want;

    private RandomRunsTest(long seed) {
        this.seed = seed;
        program = new FieldMixtures();
        model = new PlainModel();
    }

    public static void main(String[] args) {
        Check check = new Check("RandomRunsTest");
        for (int run = 0; run < RUNS; run++) {
            new RandomRunsTest(run * 7919L + 17).play(run, check);
        }
        check.close();
    }

    private int below(int end) {
        seed = seed * 6364136223846793005L + 1442695040888963407L;
        return (int) ((seed >>> 33) % end);
    }

    /** Mostly from the range, now and then beside it. */
    private int from(int least, int most) {
        int way = below(40);
        if (way == 0) {
            return ODD[below(ODD.length)];
        }
        if (way == 1) {
            return below(2) == 0 ? least - 1 : most + 1;
        }
        return least + below(most - least + 1);
    }

    private int player() {
        return from(0, 1);
    }

    private int field() {
        return from(0, model.count(0) - 1);
    }

    private int allocation(int player) {
        int many = player == 0 || player == 1 ? model.allocations(player, -1) : 0;
        int way = below(40);
        if (many == 0 || way == 0) {
            return below(10000);
        }
        if (way == 1) {
            return ODD[below(ODD.length)];
        }
        return model.allocations(player, below(many));
    }

    /** One that is in the mixture, for the most part. */
    private int mixed(int player) {
        int many = player == 0 || player == 1 ? model.count(5 + player) : 0;
        return many == 0 || below(5) == 0 ? allocation(player) : model.mixtureOf(player, below(many), 0);
    }

    private int weight() {
        return below(4) == 0 ? 90 + below(10) : from(1, 99);
    }

    /** Every second run is shorter, so that with what is looked at then it has 512 calls at most, too. */
    private void play(int run, Check check) {
        List<String> calls = new ArrayList<>();
        boolean looksAtState = run % 2 == 1;
        int end = looksAtState ? 1 + below(CALLS - LOOKS) : CALLS;
        int kind = run / 2 % 4;
        boolean same = true;
        while (same && calls.size() < end) {
            int texts = kind == 3 ? below(3) : below(40);
            if (texts == 0) {
                same = typeText(calls, Math.min(end - calls.size(), 60));
            } else {
                one(kind);
                calls.add(call + " " + got + "/" + want);
                same = got == want;
            }
        }
        check.holds("run " + run + ": " + (same ? "" : calls), same);
        if (same && looksAtState) {
            check.holds("run " + run + ", the state after it: " + calls, sameState());
        }
    }

    private boolean typeText(List<String> calls, int most) {
        String text = someText();
        boolean same = true;
        for (int index = 0; same && index < Math.min(text.length(), most); index++) {
            char sign = text.charAt(index);
            answer("type(" + (int) sign + ")", program.type(sign), model.type(sign));
            calls.add(call + " " + got + "/" + want);
            same = got == want;
        }
        return same;
    }

    private String someText() {
        StringBuilder text = new StringBuilder();
        int parts = below(6);
        for (int part = 0; part < parts; part++) {
            int player = below(2);
            text.append(player).append(':');
            int allocation = below(3) == 0 ? mixed(player) : allocation(player);
            text.append(String.format("%0" + model.count(0) + "d", Math.abs(allocation % 10000)));
            if (below(2) == 0) {
                text.append('*').append(String.format(below(2) == 0 ? "%d" : "%02d", below(20) == 0 ? 0 : weight()));
            }
            text.append(';');
        }
        if (below(3) == 0 && text.length() > 0) {
            spoil(text);
        }
        return text.toString();
    }

    private void spoil(StringBuilder text) {
        int place = below(text.length());
        String signs = "01289:;* -~,a";
        char sign = signs.charAt(below(signs.length()));
        switch (below(4)) {
            case 0 -> text.setCharAt(place, sign);
            case 1 -> text.insert(place, sign);
            case 2 -> text.deleteCharAt(place);
            default -> text.setLength(place);
        }
    }

    private void answer(String call, int got, int want) {
        this.call = call;
        this.got = got;
        this.want = want;
    }

    /** The kinds: 0 everything, 1 many mixtures, 2 small contests, 3 many texts. */
    private void one(int kind) {
        int way = below(100);
        if (kind == 1 && way < 60 || kind == 0 && way < 20) {
            change(way % 20 < 14 ? 5 : 6);
        } else if (way < 30 && kind != 1) {
            change(below(9));
        } else if (way < 65) {
            ask(below(11));
        } else if (way < 68) {
            answer("undo()", program.undo(), model.undo());
        } else if (way < 72) {
            answer("read()", program.read(), model.read());
        } else if (way < 80) {
            int what = from(0, 2);
            answer("fault(" + what + ")", program.fault(what), model.fault(what));
        } else if (way < 83) {
            answer("clearText()", program.clearText(), model.clearText());
        } else if (way < 86) {
            int sign = from(32, 126);
            answer("type(" + sign + ")", program.type(sign), model.type(sign));
        } else {
            ask(below(11));
        }
    }

    private void change(int which) {
        int player = player();
        switch (which) {
            case 0 -> {
                int many = from(2, 4);
                answer("fields(" + many + ")", program.fields(many), model.fields(many));
            }
            case 1 -> {
                int field = field();
                int value = from(1, 9);
                answer("value(" + field + ", " + value + ")", program.value(field, value), model.value(field, value));
            }
            case 2 -> {
                int resources = from(0, 8);
                answer("resources(" + player + ", " + resources + ")", program.resources(player, resources),
                        model.resources(player, resources));
            }
            case 3 -> {
                int field = field();
                int bound = from(0, 8);
                answer("bound(" + player + ", " + field + ", " + bound + ")", program.bound(player, field, bound),
                        model.bound(player, field, bound));
            }
            case 4 -> {
                int rule = from(0, 2);
                answer("tie(" + rule + ")", program.tie(rule), model.tie(rule));
            }
            case 6 -> {
                int allocation = mixed(player);
                answer("take(" + player + ", " + allocation + ")", program.take(player, allocation),
                        model.take(player, allocation));
            }
            case 7 -> {
                int many = from(1, below(3) == 0 ? 20 : 3);
                answer("round(" + many + ")", program.round(many), model.round(many));
            }
            default -> {
                int allocation = allocation(player);
                int weight = weight();
                answer("put(" + player + ", " + allocation + ", " + weight + ")",
                        program.put(player, allocation, weight), model.put(player, allocation, weight));
            }
        }
    }

    private void ask(int which) {
        int player = player();
        int part = from(0, 1);
        switch (which) {
            case 0 -> {
                int index = from(-1, Math.max(model.allocations(0, -1), model.allocations(1, -1)));
                answer("allocations(" + player + ", " + index + ")", program.allocations(player, index),
                        model.allocations(player, index));
            }
            case 1 -> {
                int first = allocation(0);
                int second = allocation(1);
                answer("gains(" + first + ", " + second + ")", program.gains(first, second),
                        model.gains(first, second));
            }
            case 2 -> {
                int allocation = allocation(player);
                answer("better(" + player + ", " + allocation + ")", program.better(player, allocation),
                        model.better(player, allocation));
            }
            case 3, 4 -> {
                int index = from(0, 12);
                int what = from(0, 3);
                answer("mixtureOf(" + player + ", " + index + ", " + what + ")",
                        program.mixtureOf(player, index, what), model.mixtureOf(player, index, what));
            }
            case 5 -> {
                int field = field();
                int amount = from(0, 8);
                answer("marginal(" + player + ", " + field + ", " + amount + ")",
                        program.marginal(player, field, amount), model.marginal(player, field, amount));
            }
            case 6 -> {
                int field = field();
                answer("mean(" + player + ", " + field + ", " + part + ")", program.mean(player, field, part),
                        model.mean(player, field, part));
            }
            case 7 -> answer("expected(" + part + ")", program.expected(part), model.expected(part));
            case 8 -> {
                int what = from(0, 3);
                answer("reply(" + player + ", " + what + ")", program.reply(player, what), model.reply(player, what));
            }
            case 9 -> answer("could(" + player + ", " + part + ")", program.could(player, part),
                    model.could(player, part));
            default -> {
                int what = from(0, 49);
                answer("count(" + what + ")", program.count(what), model.count(what));
            }
        }
    }

    /** All that can be asked without a change. */
    private boolean sameState() {
        boolean same = true;
        for (int what = 0; what < 50; what++) {
            same = same && program.count(what) == model.count(what);
        }
        for (int player = 0; player < 2; player++) {
            for (int index = 0; index < 12; index++) {
                same = same && program.mixtureOf(player, index, 0) == model.mixtureOf(player, index, 0)
                        && program.mixtureOf(player, index, 1) == model.mixtureOf(player, index, 1);
            }
        }
        for (int what = 0; what < 3; what++) {
            same = same && program.fault(what) == model.fault(what);
        }
        return same;
    }
}
