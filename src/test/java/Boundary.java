import java.util.function.Supplier;
import java.util.function.ToIntFunction;

/** What the tests about the boundaries share: the sentence that is tested, states to begin with, refused calls. */
final class Boundary {
    static final int INVALID = -1000001;
    static final int IMPOSSIBLE = -1000002;
    static final int LIMIT = -1000003;
    static final int MISSING = -1000004;
    static final int ZERO = 100000000;

    private final Check check;
    private String sentence = "";

    Boundary(String test) {
        check = new Check(test);
    }

    /** The sentence of the document that the checks behind it are about. */
    void sentence(String words) {
        sentence = words;
    }

    void due(String call, long got, long want) {
        check.due("\"" + sentence + "\" " + call, got, want);
    }

    void holds(String what, boolean holds) {
        check.holds("\"" + sentence + "\" " + what, holds);
    }

    void close() {
        check.close();
    }

    /** A call that is refused answers its error, twice too, and leaves the object as one without the call is. */
    void refused(String call, Supplier<FieldMixtures> made, ToIntFunction<FieldMixtures> asked, int error) {
        FieldMixtures x = made.get();
        due(call, asked.applyAsInt(x), error);
        due(call + " once more", asked.applyAsInt(x), error);
        holds(call + " changes nothing", past(x).equals(past(made.get())));
    }

    /** Two objects of which all is the same that can be asked. */
    void alike(String what, FieldMixtures one, FieldMixtures other) {
        String first = past(one);
        String second = past(other);
        holds(what + (first.equals(second) ? "" : "\n" + first + "\n" + second), first.equals(second));
    }

    /** What the object shows now. */
    static String shown(FieldMixtures x) {
        StringBuilder all = new StringBuilder();
        for (int what = 0; what <= 10; what++) {
            all.append(what).append('=').append(x.count(what)).append(' ');
        }
        int fields = x.count(0);
        for (int start = 20; start <= 40; start += 10) {
            for (int field = 0; field < fields; field++) {
                all.append(start + field).append('=').append(x.count(start + field)).append(' ');
            }
        }
        for (int player = 0; player < 2; player++) {
            all.append(mixture(x, player)).append(' ');
        }
        for (int what = 0; what <= 2; what++) {
            all.append(x.fault(what)).append(' ');
        }
        return all.toString();
    }

    /**
     * What it shows now and after each undo(); its history is empty then. Some 400 calls if all is full,
     * and an object is used for at most 512.
     */
    static String past(FieldMixtures x) {
        StringBuilder all = new StringBuilder(shown(x));
        for (int states = x.count(9); states > 0; states--) {
            all.append("undo ").append(x.undo()).append(": ").append(shown(x));
        }
        return all.append("text ").append(x.clearText()).toString();
    }

    /** The mixture as allocations with weights, as "4*3 220*99". */
    static String mixture(FieldMixtures x, int player) {
        StringBuilder all = new StringBuilder();
        int size = x.count(5 + player);
        for (int index = 0; index < size; index++) {
            all.append(index == 0 ? "" : " ");
            all.append(x.mixtureOf(player, index, 0)).append('*').append(x.mixtureOf(player, index, 1));
        }
        return all.toString();
    }

    static FieldMixtures write(FieldMixtures x, String text) {
        for (int index = 0; index < text.length(); index++) {
            x.type(text.charAt(index));
        }
        return x;
    }

    static FieldMixtures withText(String text) {
        return write(new FieldMixtures(), text);
    }

    /** Puts the first allocations of a player into the mixture, all with one weight. */
    static FieldMixtures fill(FieldMixtures x, int player, int many, int weight) {
        for (int index = 0; index < many; index++) {
            x.put(player, x.allocations(player, index), weight);
        }
        return x;
    }

    /** Something of everything: two mixtures, values, the rule 1, a full history, a text with a fault. */
    static FieldMixtures busy() {
        FieldMixtures x = new FieldMixtures();
        x.put(0, 4, 3);
        x.put(0, 220, 99);
        x.put(1, 13, 5);
        x.put(1, 400, 2);
        x.tie(1);
        x.value(2, 7);
        return write(x, "0:004*12;1:4");
    }

    /** The same with fields of the given number. */
    static FieldMixtures busyWith(int fields) {
        FieldMixtures x = new FieldMixtures();
        x.fields(fields);
        x.put(0, 4, 3);
        x.put(0, 22, 99);
        x.put(1, 13, 5);
        x.put(1, 40, 2);
        x.tie(1);
        x.value(fields - 1, 7);
        return write(x, "0:4");
    }

    /** Two fields, one resource each: both reply 10 at each round, whatever is mixed, as the field 0 is dear. */
    static FieldMixtures duel(int firstWeight, int secondWeight) {
        FieldMixtures x = new FieldMixtures();
        x.fields(2);
        x.resources(0, 1);
        x.resources(1, 1);
        x.value(0, 3);
        x.put(0, 10, firstWeight);
        x.put(1, 10, secondWeight);
        return x;
    }

    /** The bounds leave the player no allocation; the other one has the mixture 4*1. */
    static FieldMixtures without(int player) {
        FieldMixtures x = new FieldMixtures();
        x.put(1 - player, 4, 1);
        for (int field = 0; field < 3; field++) {
            x.bound(player, field, 1);
        }
        return x;
    }
}
