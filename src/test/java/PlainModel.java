import java.math.BigInteger;
import java.util.ArrayList;
import java.util.Arrays;
import java.util.List;
import java.util.TreeMap;
import java.util.regex.Matcher;
import java.util.regex.Pattern;

/**
 * The document once more, in the slowest and plainest form: whatever can be told by trying everything is.
 * It shares no line with the program, so that an error in one of both shows as a difference.
 */
final class PlainModel {
    static final int INVALID = -1000001;
    static final int IMPOSSIBLE = -1000002;
    static final int LIMIT = -1000003;
    static final int MISSING = -1000004;

    private static final class Situation {
        int fields = 3;
        int tie = 0;
        List<Integer> values = new ArrayList<>(List.of(1, 1, 1));
        List<Integer> resources = new ArrayList<>(List.of(4, 4));
        List<List<Integer>> bounds = new ArrayList<>(
                List.of(new ArrayList<>(List.of(8, 8, 8)), new ArrayList<>(List.of(8, 8, 8))));
        List<TreeMap<Integer, Integer>> mixtures = new ArrayList<>(List.of(new TreeMap<>(), new TreeMap<>()));

        Situation copy() {
            Situation copy = new Situation();
            copy.fields = fields;
            copy.tie = tie;
            copy.values = new ArrayList<>(values);
            copy.resources = new ArrayList<>(resources);
            copy.bounds = new ArrayList<>();
            copy.mixtures = new ArrayList<>();
            for (int player = 0; player < 2; player++) {
                copy.bounds.add(new ArrayList<>(bounds.get(player)));
                copy.mixtures.add(new TreeMap<>(mixtures.get(player)));
            }
            return copy;
        }

        List<Integer> digits(int number) {
            String text = String.format("%0" + fields + "d", number);
            List<Integer> digits = new ArrayList<>();
            for (char sign : text.toCharArray()) {
                digits.add(sign - '0');
            }
            return digits;
        }

        boolean isAllocation(int player, int number) {
            if (number < 0 || digits(number).size() != fields) {
                return false;
            }
            List<Integer> digits = digits(number);
            for (int field = 0; field < fields; field++) {
                if (digits.get(field) > bounds.get(player).get(field)) {
                    return false;
                }
            }
            return digits.stream().mapToInt(Integer::intValue).sum() == resources.get(player);
        }

        List<Integer> all(int player) {
            List<Integer> all = new ArrayList<>();
            addAll(player, 0, 0, 0, all);
            return all;
        }

        private void addAll(int player, int field, int number, int given, List<Integer> all) {
            if (field == fields) {
                if (given == resources.get(player)) {
                    all.add(number);
                }
                return;
            }
            for (int amount = 0; amount <= bounds.get(player).get(field) && given + amount <= 8; amount++) {
                addAll(player, field + 1, number * 10 + amount, given + amount, all);
            }
        }

        /** What the player's allocation `own` gains against the other one's allocation `other`. */
        int gain(int player, List<Integer> own, List<Integer> other) {
            int gain = 0;
            for (int field = 0; field < fields; field++) {
                int winner;
                if (own.get(field) > other.get(field)) {
                    winner = player;
                } else if (own.get(field) < other.get(field)) {
                    winner = 1 - player;
                } else {
                    winner = tie - 1;
                }
                if (winner == player) {
                    gain += values.get(field);
                } else if (winner == 1 - player) {
                    gain -= values.get(field);
                }
            }
            return gain;
        }

        long weight(int player) {
            return mixtures.get(player).values().stream().mapToLong(Integer::longValue).sum();
        }

        Ratio against(int player, int own) {
            Ratio sum = new Ratio(0, 1);
            List<Integer> digits = digits(own);
            for (var entry : mixtures.get(1 - player).entrySet()) {
                long part = (long) entry.getValue() * gain(player, digits, digits(entry.getKey()));
                sum = sum.plus(new Ratio(part, weight(1 - player)));
            }
            return sum;
        }

        Ratio mixed(int player) {
            Ratio sum = new Ratio(0, 1);
            for (var entry : mixtures.get(player).entrySet()) {
                sum = sum.plus(against(player, entry.getKey()).times(new Ratio(entry.getValue(), weight(player))));
            }
            return sum;
        }

        /** All best replies, in order. */
        List<Integer> best(int player) {
            List<Integer> best = new ArrayList<>();
            Ratio most = null;
            for (int number : all(player)) {
                Ratio gain = against(player, number);
                int order = most == null ? 1 : gain.compareTo(most);
                if (order > 0) {
                    best.clear();
                    most = gain;
                }
                if (order >= 0) {
                    best.add(number);
                }
            }
            return best;
        }

        void clean() {
            for (int player = 0; player < 2; player++) {
                int who = player;
                mixtures.get(player).keySet().removeIf(number -> !isAllocation(who, number));
            }
        }

        int together() {
            return mixtures.get(0).size() + mixtures.get(1).size();
        }
    }

    private record Ratio(BigInteger upper, BigInteger lower) implements Comparable<Ratio> {
        Ratio(long upper, long lower) {
            this(BigInteger.valueOf(upper), BigInteger.valueOf(lower));
        }

        Ratio plus(Ratio other) {
            return new Ratio(upper.multiply(other.lower).add(other.upper.multiply(lower)), lower.multiply(other.lower))
                    .lowest();
        }

        Ratio times(Ratio other) {
            return new Ratio(upper.multiply(other.upper), lower.multiply(other.lower)).lowest();
        }

        Ratio minus(Ratio other) {
            return plus(new Ratio(other.upper.negate(), other.lower));
        }

        Ratio lowest() {
            BigInteger divisor = upper.gcd(lower);
            return new Ratio(upper.divide(divisor), lower.divide(divisor));
        }

        int part(int part) {
            Ratio lowest = lowest();
            return part == 0 ? lowest.upper.intValueExact() + 100000000 : lowest.lower.intValueExact();
        }

        @Override
        public int compareTo(Ratio other) {
            return upper.multiply(other.lower).compareTo(other.upper.multiply(lower));
        }
    }

    private Situation now = new Situation();
    private final List<Situation> history = new ArrayList<>();
    private String text = "";

    private void record() {
        history.add(now.copy());
        if (history.size() == 5) {
            history.remove(0);
        }
    }

    private boolean player(int player) {
        return player == 0 || player == 1;
    }

    private boolean field(int field) {
        return field >= 0 && field < now.fields;
    }

    int fields(int many) {
        if (many < 2 || many > 4) {
            return INVALID;
        }
        record();
        int before = now.fields;
        now.fields = many;
        now.values = new ArrayList<>();
        now.bounds = new ArrayList<>(List.of(new ArrayList<>(), new ArrayList<>()));
        for (int field = 0; field < many; field++) {
            now.values.add(1);
            now.bounds.get(0).add(8);
            now.bounds.get(1).add(8);
        }
        if (many != before) {
            now.mixtures.get(0).clear();
            now.mixtures.get(1).clear();
        }
        return before;
    }

    int value(int field, int value) {
        if (!field(field) || value < 1 || value > 9) {
            return INVALID;
        }
        record();
        return now.values.set(field, value);
    }

    int resources(int player, int resources) {
        if (!player(player) || resources < 0 || resources > 8) {
            return INVALID;
        }
        record();
        now.resources.set(player, resources);
        now.clean();
        return now.mixtures.get(player).size();
    }

    int bound(int player, int field, int bound) {
        if (!player(player) || !field(field) || bound < 0 || bound > 8) {
            return INVALID;
        }
        record();
        now.bounds.get(player).set(field, bound);
        now.clean();
        return now.mixtures.get(player).size();
    }

    int tie(int rule) {
        if (rule < 0 || rule > 2) {
            return INVALID;
        }
        record();
        int before = now.tie;
        now.tie = rule;
        return before;
    }

    int allocations(int player, int index) {
        if (!player(player) || index < -1) {
            return INVALID;
        }
        List<Integer> all = now.all(player);
        if (index == -1) {
            return all.size();
        }
        return index < all.size() ? all.get(index) : MISSING;
    }

    int gains(int first, int second) {
        if (!now.isAllocation(0, first) || !now.isAllocation(1, second)) {
            return INVALID;
        }
        return now.gain(0, now.digits(first), now.digits(second)) + 1000;
    }

    int better(int player, int allocation) {
        if (!player(player) || !now.isAllocation(player, allocation)) {
            return INVALID;
        }
        List<List<Integer>> others = new ArrayList<>();
        for (int other : now.all(1 - player)) {
            others.add(now.digits(other));
        }
        List<Integer> old = now.digits(allocation);
        for (int candidate : now.all(player)) {
            List<Integer> digits = now.digits(candidate);
            boolean never = others.stream()
                    .noneMatch(other -> now.gain(player, digits, other) < now.gain(player, old, other));
            boolean once = others.stream()
                    .anyMatch(other -> now.gain(player, digits, other) > now.gain(player, old, other));
            if (never && once) {
                return candidate;
            }
        }
        return MISSING;
    }

    int put(int player, int allocation, int weight) {
        if (!player(player) || !now.isAllocation(player, allocation) || weight < 1 || weight > 99) {
            return INVALID;
        }
        TreeMap<Integer, Integer> mixture = now.mixtures.get(player);
        if (!mixture.containsKey(allocation) && mixture.size() == 12) {
            return LIMIT;
        }
        record();
        Integer before = mixture.put(allocation, weight);
        return before == null ? 0 : before;
    }

    int take(int player, int allocation) {
        if (!player(player) || !now.isAllocation(player, allocation)) {
            return INVALID;
        }
        if (!now.mixtures.get(player).containsKey(allocation)) {
            return IMPOSSIBLE;
        }
        record();
        return now.mixtures.get(player).remove(allocation);
    }

    int round(int many) {
        if (many < 1 || many > 20) {
            return INVALID;
        }
        if (now.weight(0) == 0 || now.weight(1) == 0) {
            return IMPOSSIBLE;
        }
        Situation before = now.copy();
        for (int played = 0; played < many; played++) {
            List<Integer> replies = List.of(now.best(0).get(0), now.best(1).get(0));
            for (int player = 0; player < 2; player++) {
                now.mixtures.get(player).merge(replies.get(player), 1, Integer::sum);
                if (now.mixtures.get(player).size() > 12 || now.mixtures.get(player).containsValue(100)) {
                    now = before;
                    return LIMIT;
                }
            }
        }
        Situation after = now;
        now = before;
        record();
        now = after;
        return now.together();
    }

    int mixtureOf(int player, int index, int what) {
        if (!player(player) || index < 0 || what < 0 || what > 3) {
            return INVALID;
        }
        if (what > 1 && now.mixtures.get(1 - player).isEmpty()) {
            return IMPOSSIBLE;
        }
        List<Integer> keys = new ArrayList<>(now.mixtures.get(player).keySet());
        if (index >= keys.size()) {
            return MISSING;
        }
        int allocation = keys.get(index);
        if (what == 0) {
            return allocation;
        }
        if (what == 1) {
            return now.mixtures.get(player).get(allocation);
        }
        return now.against(player, allocation).part(what - 2);
    }

    int marginal(int player, int field, int amount) {
        if (!player(player) || !field(field) || amount < 0 || amount > 8) {
            return INVALID;
        }
        int sum = 0;
        for (var entry : now.mixtures.get(player).entrySet()) {
            if (now.digits(entry.getKey()).get(field) == amount) {
                sum += entry.getValue();
            }
        }
        return sum;
    }

    int mean(int player, int field, int part) {
        if (!player(player) || !field(field) || part < 0 || part > 1) {
            return INVALID;
        }
        if (now.weight(player) == 0) {
            return IMPOSSIBLE;
        }
        long sum = 0;
        for (int amount = 0; amount <= 8; amount++) {
            sum += (long) amount * marginal(player, field, amount);
        }
        return new Ratio(sum, now.weight(player)).part(part);
    }

    int expected(int part) {
        if (part < 0 || part > 1) {
            return INVALID;
        }
        if (now.weight(0) == 0 || now.weight(1) == 0) {
            return IMPOSSIBLE;
        }
        return now.mixed(0).part(part);
    }

    int reply(int player, int what) {
        if (!player(player) || what < 0 || what > 3) {
            return INVALID;
        }
        if (now.weight(1 - player) == 0 || now.all(player).isEmpty()) {
            return IMPOSSIBLE;
        }
        List<Integer> best = now.best(player);
        if (what == 0) {
            return best.get(0);
        }
        return what == 3 ? best.size() : now.against(player, best.get(0)).part(what - 1);
    }

    int could(int player, int part) {
        if (!player(player) || part < 0 || part > 1) {
            return INVALID;
        }
        if (now.weight(0) == 0 || now.weight(1) == 0) {
            return IMPOSSIBLE;
        }
        return now.against(player, now.best(player).get(0)).minus(now.mixed(player)).part(part);
    }

    int count(int what) {
        if (what >= 20 && what <= 49) {
            int field = what % 10;
            if (!field(field)) {
                return INVALID;
            }
            return what < 30 ? now.values.get(field) : now.bounds.get(what / 10 - 3).get(field);
        }
        List<Integer> numbers = Arrays.asList(now.fields, now.values.stream().mapToInt(Integer::intValue).sum(),
                now.tie, now.resources.get(0), now.resources.get(1), now.mixtures.get(0).size(),
                now.mixtures.get(1).size(), (int) now.weight(0), (int) now.weight(1), history.size(), text.length());
        return what >= 0 && what <= 10 ? numbers.get(what) : INVALID;
    }

    int undo() {
        if (history.isEmpty()) {
            return IMPOSSIBLE;
        }
        now = history.remove(history.size() - 1);
        return history.size();
    }

    int type(int character) {
        if (character < 32 || character > 126) {
            return INVALID;
        }
        if (text.length() == 80) {
            return LIMIT;
        }
        text += (char) character;
        return text.length();
    }

    int clearText() {
        int length = text.length();
        text = "";
        return length;
    }

    /** Whether signs can still become a part: some rest makes them one. */
    private boolean canGoOn(String signs) {
        String digits = "0".repeat(now.fields);
        for (String whole : List.of("0:" + digits + ";", "0:" + digits + "*0;", "0:" + digits + "*00;")) {
            for (int from = 0; from <= whole.length(); from++) {
                if (form().matcher(signs + whole.substring(from)).matches()) {
                    return true;
                }
            }
        }
        return false;
    }

    private Pattern form() {
        return Pattern.compile("([01]):([0-9]{" + now.fields + "})(\\*([0-9]{1,2}))?;");
    }

    /** Position, reason and cause, or null; the parts go into the situation. */
    private int[] doText(Situation situation) {
        int position = 0;
        while (position < text.length()) {
            String rest = text.substring(position);
            Matcher matcher = form().matcher(rest);
            if (!matcher.lookingAt()) {
                int good = 0;
                while (good < rest.length() && canGoOn(rest.substring(0, good + 1))) {
                    good++;
                }
                return new int[] {position, 1, good};
            }
            int player = Integer.parseInt(matcher.group(1));
            int allocation = Integer.parseInt(matcher.group(2));
            int weight = matcher.group(4) == null ? 1 : Integer.parseInt(matcher.group(4));
            if (weight == 0 || !situation.isAllocation(player, allocation)) {
                return new int[] {position, 2, MISSING};
            }
            situation.mixtures.get(player).put(allocation, weight);
            if (situation.mixtures.get(player).size() > 12) {
                return new int[] {position, 3, MISSING};
            }
            position += matcher.end();
        }
        return null;
    }

    int fault(int what) {
        if (what < 0 || what > 2) {
            return INVALID;
        }
        int[] fault = doText(now.copy());
        return fault == null ? MISSING : fault[what];
    }

    int read() {
        Situation after = now.copy();
        if (doText(after) != null) {
            return IMPOSSIBLE;
        }
        record();
        now = after;
        return now.together();
    }
}
