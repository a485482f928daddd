import java.util.function.LongSupplier;
import java.util.function.ToLongFunction;

/** Tests of the document's sentences, each by itself under the words it holds the class to. */
public abstract class Sentences {
    protected static final long NO = NextBest.NO_SUCH;
    protected static final long NEVER = NextBest.NEVER;
    protected static final int NONE = NextBest.NONE;
    protected static final int MIN = Integer.MIN_VALUE;
    protected static final int MAX = Integer.MAX_VALUE;
    /** Calls that the document lets an object take. */
    protected static final int MOST_CALLS = 512;

    private final Check check;
    private final Quotes quotes;
    private String heading = "";
    private String sentence = "";

    protected Sentences(Check check, Quotes quotes) {
        this.check = check;
        this.quotes = quotes;
    }

    public abstract void all();

    protected final void under(String part) {
        heading = part;
    }

    protected final void says(String words, Runnable test) {
        sentence = words;
        check.due(heading + ": the document does not say '" + words + "'", quotes.mark(heading, words) ? 1 : 0, 1);
        int before = check.made();
        test.run();
        check.due(heading + ": nothing is tested of '" + words + "'", check.made() > before ? 1 : 0, 1);
    }

    protected final void due(String call, long got, long want) {
        check.due(heading + " '" + sentence + "': " + call, got, want);
    }

    /** The call answers what is due, and all that can be looked at is as it was. */
    protected final void leaves(NextBest x, String call, LongSupplier asked, long want) {
        String before = look(x);
        due(call, asked.getAsLong(), want);
        String after = look(x);
        check.due(heading + " '" + sentence + "': " + call + " changed " + before + " to " + after,
                after.equals(before) ? 1 : 0, 1);
    }

    /** The same on an object of its own, for looking takes calls, and an object bears only so many. */
    protected final void leaves(String text, String call, ToLongFunction<NextBest> asked, long want) {
        NextBest x = Check.told(text);
        leaves(x, call, () -> asked.applyAsLong(x), want);
    }

    private static String look(NextBest x) {
        StringBuilder seen = new StringBuilder();
        for (int what = 0; what <= 5; what++) {
            seen.append(x.count(what)).append(' ');
        }
        seen.append("faults ").append(x.fault(0)).append(' ').append(x.fault(1));
        seen.append(" sums ").append(x.sum(0)).append(' ').append(x.middle()).append(" costs");
        int workers = x.count(0);
        int jobs = x.count(1);
        boolean large = workers * jobs > 12;
        for (int worker = 0; worker < workers; worker += large ? workers - 1 : 1) {
            for (int job = 0; job < jobs; job += large ? jobs - 1 : 1) {
                seen.append(' ').append(x.cost(worker, job));
            }
        }
        return seen.toString();
    }
}
