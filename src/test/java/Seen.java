import java.util.ArrayList;
import java.util.List;
import java.util.function.Supplier;

/** That a call is refused, and that nothing changes by it but how many refusals there were. */
final class Seen {
    interface Call {
        long on(StruckJury x);
    }

    private Seen() {
    }

    static void refused(String call, long answer, int number, Supplier<StruckJury> state, Call made) {
        StruckJury x = state.get();
        StruckJury untouched = state.get();
        Due.due(call, made.on(x), answer);
        for (int k = 1; k <= 6; k++) {
            int more = x.count(10 + k) - untouched.count(10 + k);
            Due.due(call + ": how many REFUSALS -" + k + " more", more, k == -number ? 1 : 0);
        }
        List<Long> is = all(x);
        List<Long> was = all(untouched);
        for (int i = 0; i < was.size(); i++) {
            Due.due(call + ": nothing changes, look " + i, is.get(i), was.get(i));
        }
    }

    /** All that can be seen of an object; it is used up by that. */
    private static List<Long> all(StruckJury x) {
        List<Long> seen = new ArrayList<>();
        for (int what = 0; what <= 9; what++) {
            seen.add((long) x.count(what));
        }
        row(x, seen);
        long statements = x.court();
        seen.add(statements);
        bench(x, seen);
        seen.add((long) x.restore());
        row(x, seen);
        bench(x, seen);
        return seen;
    }

    private static void row(StruckJury x, List<Long> seen) {
        seen.add((long) x.lawful());
        seen.add(x.slip(false));
        seen.add(x.slip(true));
        for (int sort = 0; sort < 6; sort++) {
            seen.add(x.seldom(sort, 0));
        }
    }

    private static void bench(StruckJury x, List<Long> seen) {
        for (int what = 0; what < 5; what++) {
            seen.add((long) x.set(what, 1));
        }
        for (int person = 0; person < 12; person++) {
            both(x, 1 << person, seen);
        }
        while (x.count(0) > 0) {
            x.takeBack();
        }
        for (int sort = 0; sort < 6; sort++) {
            both(x, 1 << x.person(sort), seen);
        }
    }

    /** What one person finds if A is right, if B is. */
    private static void both(StruckJury x, int jury, List<Long> seen) {
        x.set(4, 100);
        seen.add(x.chance(jury));
        x.set(4, 0);
        seen.add(x.chance(jury));
    }
}
