import java.util.Random;

/** Laws by hand, and drawn texts, true and not quite, whose faults and worths PlainLaw tells too. */
public final class LawTest {
    private static final String LETTERS = "((((!!--))))++**//%%<=>||&&??;;wdbofy0123456789";
    private static int wrong = 0;

    private LawTest() {
    }

    public static void main(String[] args) {
        worths();
        faults();
        drawnTexts();
        System.out.println(wrong == 0 ? "laws: all as due" : "laws: " + wrong + " wrong");
        System.exit(wrong == 0 ? 0 : 1);
    }

    private static void due(String text, int got, int want) {
        if (got != want) {
            wrong++;
            System.out.println("law " + text + " answered " + got + ", due is " + want);
        }
    }

    /** Promise 0: weight 7, 6 days left, 4 boots, 2 others, not forgot, day 5. */
    private static NailedByWord town() {
        NailedByWord x = new NailedByWord();
        x.person(3);
        x.person(4);
        x.mend(0, 9, 5);
        x.mend(0, 1, 4);
        x.promise(1, 711);
        x.promise(1, 199);
        x.promise(1, 299);
        return x;
    }

    private static int tell(NailedByWord x, String text) {
        for (int i = 0; i < text.length(); i++) {
            x.feed(text.charAt(i));
        }
        return x.law();
    }

    private static void worth(String text, int want) {
        NailedByWord x = town();
        due(text, tell(x, text), 1);
        due(text, x.hard(0), want);
    }

    private static void worths() {
        worth("w", 7);
        worth("d", 6);
        worth("b", 4);
        worth("o", 2);
        worth("f", 0);
        worth("y", 5);
        worth("9-2-3", 4);
        worth("2+3*2", 8);
        worth("(1+3)*2", 8);
        worth("9/2*2", 8);
        worth("9%5%3", 1);
        worth("9/0+1", 1);
        worth("9%0+2", 2);
        worth("-7/2+5", 2);
        worth("-7%4+5", 2);
        worth("0-7%4+5", 2);
        worth("2*-1+5", 3);
        worth("5--2", 7);
        worth("!w", 0);
        worth("!f", 1);
        worth("!!w", 1);
        worth("!-w+3", 3);
        worth("-!f+3", 2);
        worth("w>6", 1);
        worth("w<7", 0);
        worth("w=7", 1);
        worth("1+1>1", 1);
        worth("3&4", 1);
        worth("3&0", 0);
        worth("0|5", 1);
        worth("0|0", 0);
        worth("1|0&0", 1);
        worth("w>6&d>6|b=4", 1);
        worth("(3>2)+(2>1)+5", 7);
        worth("f?1;o>5?2;b>3?3;4", 3);
        worth("f?1;f?2", 0);
        worth("f?1;8", 8);
        worth("-3?6;8", 6);
        worth("5;6", 5);
        worth("f;6", 0);
        worth("0009", 9);
        worth("9999-9995", 4);
        worth("12", 9);
        worth("-4", 0);
        worth("9999*9999*9999*9999%10+6", 9999 * 9999 * 9999 * 9999 % 10 + 6);
        worth("((((((w))))))", 7);
        worth("------w", 7);
        worth("!(-(!(w)))+3", 4);
        worth("(-(-(-4)))+(-(-(-2)))+9", 3);
    }

    private static void fault(String text, int place) {
        NailedByWord x = town();
        due(text, tell(x, text), -100 - place);
        due(text, x.hard(0), 3);
        due(text, x.count(2), 0);
    }

    private static void faults() {
        fault("", 0);
        fault(" ", 0);
        fault("w ", 1);
        fault("w+", 2);
        fault("w;", 2);
        fault("w?", 2);
        fault(";w", 0);
        fault("?w", 0);
        fault("w?1?2", 3);
        fault("w?1;?2", 4);
        fault("w<1<2", 3);
        fault("w<1=2", 3);
        fault("(w<1>2)", 4);
        fault("(w?1)", 2);
        fault("(w;1)", 2);
        fault("(w", 2);
        fault("w)", 1);
        fault("()", 1);
        fault("ww", 1);
        fault("1w", 1);
        fault("w1", 1);
        fault("12345", 4);
        fault("x", 0);
        fault("W", 0);
        fault("w+*d", 2);
        fault("w!d", 1);
        fault("w(d)", 1);
        fault("(w)d", 3);
        fault("*w", 0);
        fault("+w", 0);
        fault("-------w", 6);
        fault("(((((((w)))))))", 6);
        fault("!!!---(w)", 6);
        fault("(((((-w)))))+((((((-w))))))", 19);
        fault("!(-(!(-w)))", 6);
        fault("w&|d", 2);
        fault("!", 1);
        fault("-", 1);
        fault("w+(d", 4);
        fault("w" + (char) 0, 1);
        fault("w" + (char) 255, 1);
    }

    private static void drawnTexts() {
        Random draws = new Random(11);
        for (int i = 0; i < 60000; i++) {
            String text = i % 3 == 0 ? letters(draws) : line(draws, 0);
            if (i % 3 == 1) {
                int at = draws.nextInt(text.length());
                text = text.substring(0, at) + LETTERS.charAt(draws.nextInt(LETTERS.length()))
                    + text.substring(at + draws.nextInt(2));
            }
            if (text.length() <= 120) {
                compare(text);
            }
        }
    }

    private static void compare(String text) {
        NailedByWord x = town();
        int fault = PlainLaw.fault(text);
        due(text, tell(x, text), fault < 0 ? 1 : -100 - fault);
        if (fault < 0) {
            int worth = PlainLaw.worth(text, 7, 6, 4, 2, 0, 5);
            due(text, x.hard(0), Math.max(0, Math.min(9, worth)));
        }
    }

    private static String letters(Random draws) {
        StringBuilder text = new StringBuilder();
        int n = draws.nextInt(14);
        for (int i = 0; i < n; i++) {
            text.append(LETTERS.charAt(draws.nextInt(LETTERS.length())));
        }
        return text.toString();
    }

    private static String line(Random draws, int lines) {
        String text = chain(draws, 0, 0);
        if (draws.nextInt(3) == 0) {
            text += "?" + chain(draws, 0, 0);
        }
        return draws.nextInt(3) == 0 && lines < 3 ? text + ";" + line(draws, lines + 1) : text;
    }

    private static String chain(Random draws, int level, int open) {
        if (level == 5) {
            return operand(draws, open);
        }
        StringBuilder text = new StringBuilder(chain(draws, level + 1, open));
        String operators = new String[] {"|", "&", "<=>", "+-", "*/%"}[level];
        int most = level == 2 ? 1 : 3;
        for (int i = 0; i < most && draws.nextInt(5) == 0; i++) {
            text.append(operators.charAt(draws.nextInt(operators.length())));
            text.append(chain(draws, level + 1, open));
        }
        return text.toString();
    }

    private static String operand(Random draws, int open) {
        int kind = draws.nextInt(9);
        if (kind == 0 && open < 6) {
            return "(" + chain(draws, 0, open + 1) + ")";
        }
        if (kind == 1 && open < 6) {
            return "!" + operand(draws, open + 1);
        }
        if (kind == 2 && open < 6) {
            return "-" + operand(draws, open + 1);
        }
        if (kind < 6) {
            return String.valueOf("wdbofy".charAt(draws.nextInt(6)));
        }
        return String.valueOf(draws.nextInt(draws.nextBoolean() ? 5 : 10000));
    }
}
