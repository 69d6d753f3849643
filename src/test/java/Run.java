import java.util.ArrayList;
import java.util.List;

/** A run of calls, told once and lived by as many new objects as are needed. */
final class Run {
    /** For how many calls the document promises anything of one object. */
    static final int CALLS = 512;

    /** One call on an object, or several of which the last one answers. */
    interface Call {
        long on(LessonCards x);
    }

    private final List<Call> calls = new ArrayList<>();

    Run then(Call call) {
        calls.add(call);
        return this;
    }

    /** This run, and one call more. */
    Run and(Call call) {
        Run more = new Run();
        more.calls.addAll(calls);
        return more.then(call);
    }

    int size() {
        return calls.size();
    }

    LessonCards lived() {
        LessonCards x = new LessonCards();
        for (Call call : calls) {
            call.on(x);
        }
        return x;
    }
}
