/** What the tests share: telling a text to an object, and comparing an answer with the one due. */
public final class Check {
    private final String name;
    private int wrong;
    private int made;

    public Check(String name) {
        this.name = name;
    }

    public void due(String call, long got, long want) {
        made++;
        if (got != want) {
            wrong++;
            if (wrong <= 40) {
                System.out.println(name + ": " + call + " answered " + got + ", due is " + want);
            }
        }
    }

    public int wrong() {
        return wrong;
    }

    public void finish() {
        System.out.println(name + ": " + made + " answers, " + wrong + " not as due");
        if (wrong != 0 || made == 0) {
            System.exit(1);
        }
    }

    /** Puts the text on the tape behind what is there, without the noughts that fill up the last feed. */
    public static int lay(NextBest x, String text) {
        int before = x.count(5);
        for (int i = 0; i < text.length(); i += 20) {
            x.feed(four(text, i), four(text, i + 4), four(text, i + 8), four(text, i + 12), four(text, i + 16));
        }
        return x.end(before + text.length());
    }

    public static int tell(NextBest x, String text) {
        lay(x, text);
        return x.table();
    }

    public static NextBest told(String text) {
        NextBest x = new NextBest();
        tell(x, text);
        return x;
    }

    private static int four(String text, int from) {
        int number = 0;
        for (int i = from; i < from + 4; i++) {
            number = number << 8 | (i < text.length() ? text.charAt(i) & 255 : 0);
        }
        return number;
    }
}
