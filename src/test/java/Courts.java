import java.util.function.Supplier;

/** What the tests with cases by hand share: courts from texts, rows, and what is due of them. */
class Courts {
    static final int BIG = Integer.MAX_VALUE;
    static final int LOW = Integer.MIN_VALUE;
    /** One who finds for A, one for B, one as often as not; one is needed, one strike each. */
    static final String THREE = "s0:100,100;s1:0,0;n1;p012;";

    static final Supplier<StruckJury> NEW = StruckJury::new;
    static final Supplier<StruckJury> BUSY = Courts::busy;
    static final Supplier<StruckJury> FEW = Courts::few;
    static final Supplier<StruckJury> FULL = Courts::full;

    static void due(String call, long got, long want) {
        Due.due(call, got, want);
    }

    static void refused(String call, long got, int number) {
        Due.refused(call, got, number);
    }

    static void feedAll(StruckJury x, String text) {
        int had = x.count(2);
        for (int at = 0; at < text.length(); at += 8) {
            int n = Math.min(8, text.length() - at);
            long bytes = 0;
            for (int i = 0; i < n; i++) {
                bytes |= (long) text.charAt(at + i) << 8 * i;
            }
            due("feed of " + text, x.feed(n, bytes), had + at + n);
        }
    }

    static int read(StruckJury x, String text) {
        feedAll(x, text);
        return x.court();
    }

    static StruckJury of(String... texts) {
        StruckJury x = new StruckJury();
        for (String text : texts) {
            int statements = text.length() - text.replace(";", "").length();
            due("court() of " + text, read(x, text), statements);
        }
        return x;
    }

    static StruckJury three() {
        return of(THREE);
    }

    static void putAll(StruckJury x, int... people) {
        x.unput();
        for (int i = 0; i < people.length; i++) {
            due("put", x.put(people[i]), i + 1);
        }
    }

    /** The strikes of BEST by TURNS, and that there is none behind them. */
    static void dueOrder(StruckJury x, int... people) {
        for (int i = 0; i < people.length; i++) {
            due("order(" + i + ")", x.order(i), people[i]);
        }
        due("order(" + people.length + ")", x.order(people.length), -9);
    }

    /** What a court's text answers on a new object: its FAULT's place. */
    static void faultAt(String text, int place) {
        StruckJury x = new StruckJury();
        due("court() of '" + text + "'", read(x, text), -20 - place);
    }

    /** Three of four are CALLED; a row, a text, an image that is another. */
    private static StruckJury busy() {
        StruckJury x = of("s0:100,100;s1:0,0;n1;p0123;");
        x.image();
        x.sort(3, 70, 20);
        x.set(4, 60);
        putAll(x, 2, 0);
        feedAll(x, "n7;");
        return x;
    }

    /** The same, but not enough are CALLED, and fewer are there than NEEDED. */
    private static StruckJury few() {
        StruckJury x = busy();
        x.set(0, 7);
        return x;
    }

    /** The same with no room for people, strikes of the row, bytes of the text. */
    private static StruckJury full() {
        StruckJury x = busy();
        for (int i = 4; i < 12; i++) {
            x.person(i % 6);
        }
        for (int i = 2; i < 6; i++) {
            x.put(i);
        }
        feedAll(x, "h1;".repeat(25) + "h1");
        return x;
    }

    static void refusedInt(String call, int number, Supplier<StruckJury> state, Seen.Call made) {
        Seen.refused(call, number, number, state, made);
    }

    static void refusedLong(String call, int number, Supplier<StruckJury> state, Seen.Call made) {
        Seen.refused(call, number - Due.LONG, number, state, made);
    }
}
