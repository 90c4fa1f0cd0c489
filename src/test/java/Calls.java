import java.util.ArrayList;
import java.util.List;
import java.util.function.ToIntBiFunction;
import java.util.function.ToIntFunction;

/** The calls of the public face as values, so that a test can make them in any order, on the class and on the model. */
final class Calls {
    record Call(String name, ToIntFunction<LyndonTransform> onCoder, ToIntFunction<Model> onModel) {
    }

    private final List<Call> list = new ArrayList<>();

    private Calls() {
    }

    /** Every call, each with arguments in its range, at the ends of it, just beyond them and as far away as can be. */
    static List<Call> all(int k, int c) {
        Calls calls = questions(k, c);
        int[] wrong = {Integer.MIN_VALUE, -1, Integer.MAX_VALUE};
        calls.add("put", LyndonTransform::put, Model::put, Coders.join(wrong, Coders.of(0, k - 1, k)));
        calls.add("putToken", LyndonTransform::putToken, Model::putToken,
            Coders.join(wrong, Coders.of(0, 1, k, k + 1)));
        calls.add("clear()", x -> silent(x::clear), x -> silent(x::clear));
        calls.add("transform()", LyndonTransform::transform, Model::transform);
        calls.add("invert()", LyndonTransform::invert, Model::invert);
        calls.add("front()", x -> silent(x::front), x -> silent(x::front));
        calls.add("unfront()", x -> silent(x::unfront), x -> silent(x::unfront));
        calls.add("pack()", LyndonTransform::pack, Model::pack);
        calls.add("unpack()", LyndonTransform::unpack, Model::unpack);
        return calls.list;
    }

    /** The calls that change nothing in any state. */
    static List<Call> questionsOnly(int k, int c) {
        return questions(k, c).list;
    }

    private static Calls questions(int k, int c) {
        Calls calls = new Calls();
        int[] places = {Integer.MIN_VALUE, -1, 0, 1, c - 1, c, Integer.MAX_VALUE};
        calls.add("limit", LyndonTransform::limit, Model::limit,
            Coders.of(Integer.MIN_VALUE, -1, 0, 1, 2, k, c, Integer.MAX_VALUE));
        calls.add("length()", LyndonTransform::length, Model::length);
        calls.add("at", LyndonTransform::at, Model::at, places);
        calls.add("factorStart", LyndonTransform::factorStart, Model::factorStart, places);
        calls.add("rowAt", LyndonTransform::rowAt, Model::rowAt, places);
        calls.add("codeLength()", LyndonTransform::codeLength, Model::codeLength);
        calls.add("codeAt", LyndonTransform::codeAt, Model::codeAt, places);
        return calls;
    }

    // What answers nothing is made to answer always the same.
    private static int silent(Runnable call) {
        call.run();
        return 0;
    }

    private void add(String name, ToIntFunction<LyndonTransform> onCoder, ToIntFunction<Model> onModel) {
        list.add(new Call(name, onCoder, onModel));
    }

    private void add(String name, ToIntBiFunction<LyndonTransform, Integer> onCoder,
            ToIntBiFunction<Model, Integer> onModel, int[] arguments) {
        for (int i : arguments) {
            add(name + "(" + i + ")", x -> onCoder.applyAsInt(x, i), x -> onModel.applyAsInt(x, i));
        }
    }
}
