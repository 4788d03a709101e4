import java.util.TreeSet;

/**
 * Promise 3, and what promises 4 and 5 take: "A fault of a text is told by the place at which it could not go on, or how
 * many characters there are, if it ends too soon". Texts are compared with the grammar of the document, written down as
 * productions: a place is a fault if no text at all begins with the signs up to it.
 */
public final class GrammarTest {
    private static final int E = NotebookWeir.EXPRESSIONS;
    private static final int Q = NotebookWeir.QUERIES;
    private static final int R = NotebookWeir.RULES;
    private static final int NONE = NotebookWeir.NONE;
    private static final int CALLS = 512;

    /** Upper case stands for parts, but for N, a name, and D, a digit; other signs stand for themselves. */
    private static final String[] PRODUCTIONS = {
        "S TJ", "J ", "J ;S", "T N=X", "T N!X", "T X", "X MG", "G ", "G +X", "G -X", "M FH", "H ", "H *M", "F PZ",
        "Z ", "Z .DZ", "P U", "P N", "P ?", "P @", "P #F", "P (X)", "P [X" + (char) 1007 + "]",
        "Q N=NKVL", "K <", "K >", "K =", "V U", "V -U", "L s", "L c", "L m", "L l",
        "R CO", "O ", "O ;R", "C N", "C N:N" + (char) 1204,
        "U D" + (char) 1105,
    };

    private NotebookWeir x = new NotebookWeir();
    private int calls = CALLS;
    private final int[] edits = new int[3];

    public static void main(String[] args) {
        GrammarTest test = new GrammarTest();
        test.all(E, "a1=!;+*.,?#()[]<", 4);
        test.all(Q, "a=<-1s;", 6);
        test.all(R, "ab:;,1", 6);
        test.signs();
        test.longTexts();
        Checks.end("GrammarTest");
    }

    /** The parts that stand at most so often are numbered: 1001 to 1007 expressions, 1101 to 1105 digits, and names. */
    private static void expand(String stack, TreeSet<String> into) {
        if (stack.isEmpty() || isSign(stack.charAt(0))) {
            into.add(stack);
            return;
        }
        char part = stack.charAt(0);
        String rest = stack.substring(1);
        if (part >= 1000) {
            expand(rest, into);
            int count = part % 100;
            String more = part < 1100 ? ",X" : part < 1200 ? "D" : ",N";
            if (count > 0) {
                into.add(more + (char) (part - 1) + rest);
            }
            return;
        }
        for (String production : PRODUCTIONS) {
            if (production.charAt(0) == part) {
                expand(production.substring(2) + rest, into);
            }
        }
    }

    private static boolean isSign(char symbol) {
        return symbol == 'N' || symbol == 'D' || symbol < 1000 && (symbol < 'A' || symbol > 'Z');
    }

    private static boolean fits(char symbol, char sign) {
        return symbol == 'N' ? sign >= 'a' && sign <= 'z' : symbol == 'D' ? sign >= '0' && sign <= '9' : symbol == sign;
    }

    private static int faultOf(String text, int language) {
        TreeSet<String> open = new TreeSet<>();
        expand(language == E ? "S" : language == Q ? "Q" : "R", open);
        for (int i = 0; i < text.length(); i++) {
            TreeSet<String> next = new TreeSet<>();
            for (String stack : open) {
                if (!stack.isEmpty() && fits(stack.charAt(0), text.charAt(i))) {
                    expand(stack.substring(1), next);
                }
            }
            if (next.isEmpty()) {
                return i;
            }
            open = next;
        }
        return open.contains("") ? NONE : text.length();
    }

    /** A text is asked for its fault and given to a cell, that takes it or not, so that it is gone. */
    private void check(String text, int language) {
        int more = text.length() + 2;
        if (calls + more > CALLS) {
            x = new NotebookWeir();
            Checks.expressions(x, "a");
            Checks.query(x, "a=b<1s");
            Checks.rules(x, "a");
            edits[E] = 0;
            edits[Q] = 0;
            edits[R] = 0;
            calls = 11;
        }
        calls += more;
        Checks.type(x, 1, text);
        int want = faultOf(text, language);
        Checks.due("fault of \"" + text + "\" in the language " + language, x.fault(1, language), want);
        Checks.due("edit by \"" + text + "\" in the language " + language, x.edit(1, language, edits[language]),
                want == NONE ? edits[language] + 1 : NONE);
        edits[language] += want == NONE ? 1 : 0;
    }

    private void all(int language, String signs, int length) {
        check("", language);
        all(language, signs, length, "");
    }

    private void all(int language, String signs, int length, String ahead) {
        for (int i = 0; i < signs.length() && ahead.length() < length; i++) {
            String text = ahead + signs.charAt(i);
            check(text, language);
            all(language, signs, length, text);
        }
    }

    /** "any character" can be typed; which of them can be a text, or go on in one, is told sign by sign. */
    private void signs() {
        for (int sign = 0; sign < 260; sign++) {
            for (int language = E; language <= R; language++) {
                sign((char) sign, language);
            }
        }
        for (int language = E; language <= R; language++) {
            sign((char) 65535, language);
            sign((char) ('a' + 256), language);
            sign((char) ('0' + 65280), language);
        }
    }

    private void sign(char sign, int language) {
        String[] heads = {"", "a", "a=", "a=b", "a=b<", "a=b<-", "a=b<1", "1", "a.", "[1", "a:", "a:b", "#", "(a"};
        for (String head : heads) {
            check(head + sign, language);
        }
    }

    /** Texts about the limits, as they are, cut off at each place, and with another sign at each place. */
    private void longTexts() {
        aboutOne(E, "a=1;b!a;c=#[a,b].0+(a-b)*2;[?,@,c];d+12");
        aboutOne(E, "[1,2,3,4,5,6,7,8].7;#[1,2,3,4,5,6,7,8,9]");
        aboutOne(E, "123456+999999*000000-1234567");
        aboutOne(E, "((((((((((((((((((((a))))))))))))))))))))");
        aboutOne(E, "[[[[[[[[[[[[[[[[[[[[1]]]]]]]]]]]]]]]]]]]]");
        aboutOne(E, "########################################a");
        aboutOne(E, "a.0.1.2.3.4.5.6.7.8.9.0.1.2.3.4.5.6.7.8.9");
        aboutOne(E, "1;2;3;4;5;6;7;8;9;0;1;2;3;4;5;6;7;8;9;0;1");
        aboutOne(E, "[1,[2,[3,[4,[5,[6,[7,[8]]]]]]],8,8,8,8,8]");
        aboutOne(Q, "a=b<-123456s");
        aboutOne(Q, "z=z>999999l");
        aboutOne(Q, "q=r=-1234567m");
        aboutOne(R, "a:b,c,d,e,f;g:h,i,j,k,l,m;n");
        aboutOne(R, "a;b;c;d;e;f;g;h;i;j;k;l;m;n;o;p;q;r;s;t;u");
        aboutOne(R, "a:a;a:a,a;a:a,a,a;a:a,a,a,a;a:a,a,a,a,a");
    }

    private void aboutOne(int language, String text) {
        String signs = "az09=!;:,.()[]#?@<>-+*slcm A";
        String whole = text.length() > 40 ? text.substring(0, 40) : text;
        for (int length = 0; length <= whole.length(); length++) {
            check(whole.substring(0, length), language);
        }
        for (int place = 0; place < whole.length(); place++) {
            for (int i = 0; i < signs.length(); i++) {
                check(whole.substring(0, place) + signs.charAt(i) + whole.substring(place + 1), language);
            }
        }
    }
}
