/** What the tests share: telling a text to an object, and comparing an answer with the one due. */
public final class Check {
    private final String name;
    private int wrong;
    private int made;

    public Check(String name) {
        this.name = name;
    }

    public void due(String call, long got, long want) {
        made++;
        if (got != want) {
            wrong++;
            if (wrong <= 40) {
                System.out.println(name + ": " + call + " answered " + got + ", due is " + want);
            }
        }
    }

    public int wrong() {
        return wrong;
    }

    public int made() {
        return made;
    }

    public void finish() {
        System.out.println(name + ": " + made + " answers, " + wrong + " not as due");
        if (wrong != 0 || made == 0) {
            System.exit(1);
        }
    }

    /** Puts the text on the tape behind what is there, without the noughts that fill up the last feed. */
    public static int lay(NextBest x, String text) {
        int before = x.count(5);
        for (int i = 0; i < text.length(); i += 20) {
            int[] n = numbers(text, i);
            x.feed(n[0], n[1], n[2], n[3], n[4]);
        }
        return x.end(before + text.length());
    }

    /** Twenty bytes of the text as five numbers, noughts where it has none. */
    public static int[] numbers(String text, int from) {
        int[] numbers = new int[5];
        for (int i = 0; i < 20; i++) {
            int sign = from + i < text.length() ? text.charAt(from + i) & 255 : 0;
            numbers[i / 4] = numbers[i / 4] << 8 | sign;
        }
        return numbers;
    }

    public static int tell(NextBest x, String text) {
        lay(x, text);
        return x.table();
    }

    public static NextBest told(String text) {
        NextBest x = new NextBest();
        tell(x, text);
        return x;
    }
}
