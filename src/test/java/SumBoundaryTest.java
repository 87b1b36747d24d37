/** The terms of sums and facts, which promises 9 and 13 are about: each sentence that names a boundary. */
public final class SumBoundaryTest {
    private static final Sentences S = new Sentences();
    private static final String MILLION = "1000*1000";

    public static void main(String[] args) {
        promise13FromTheLeft();
        promise13Division();
        promise13Rest();
        promise13ByZero();
        promise13AboveAMillion();
        promise13BelowAMillion();
        promise13EachOfThem();
        promise13Facts();
        promise13Parts();
        promise13NameOfOff();
        S.finish();
    }

    /** The one move there is wins, if the fact holds; else the other one is stuck, and it is drawn. */
    private static void holds(String fact, boolean due) {
        SundayGame x = Check.gameOf("board 5;piece fox at 1 of 2;piece hen at 4 of 2;may fox up 2 when fox=1;wins when " + fact
            + ";stuck draws;");
        S.is(fact, x.value(x.played(0), 0), due ? 1 : 0);
    }

    private static void same(String sum, String due) {
        holds(sum + "=" + due, true);
    }

    private static void promise13FromTheLeft() {
        S.term(13, "All from the left on");
        same("9-5-3", "1");
        same("9-(5-3)", "7");
        same("100/10/5", "2");
        same("100/(10/5)", "50");
        same("50%30%7", "6");
        same("3*7/2", "10");
        same("7/2*3", "9");
        same("1+2*3", "7");
        same("9-4+3", "8");
        holds("1=1 or 1=1 and 1=2", true);
        holds("1=2 and 1=1 or 1=1", true);
        holds("not 1=2 and 1=2", false);
    }

    private static void promise13Division() {
        S.term(13, "/ gives the greatest whole number not above");
        same("7/2", "3");
        same("6/2", "3");
        same("(0-7)/2", "0-4");
        same("(0-6)/2", "0-3");
        same("(0-1)/9999", "0-1");
        same("7/(0-2)", "0-4");
        same("(0-7)/(0-2)", "3");
        same("0/(0-2)", "0");
        same(MILLION + "/(0-1)", "0-" + MILLION);
        same("(0-" + MILLION + ")/(0-1)", MILLION);
    }

    private static void promise13Rest() {
        S.term(13, "% what then lacks");
        same("7%2", "1");
        same("6%2", "0");
        same("(0-7)%2", "1");
        same("(0-6)%2", "0");
        same("7%(0-2)", "0-1");
        same("(0-7)%(0-2)", "0-1");
        same("3%9999", "3");
        same("(0-1)%9999", "9998");
        same("(0-" + MILLION + ")%(0-1)", "0");
    }

    private static void promise13ByZero() {
        S.term(13, "(by 0 both give 0)");
        same("7/0", "0");
        same("7%0", "0");
        same("0/0", "0");
        same("0%0", "0");
        same("(0-7)/0", "0");
        same("(0-7)%0", "0");
        same("7/(1-1)+5", "5");
        same("7%(fox-goal)+5", "5");
    }

    private static void promise13AboveAMillion() {
        S.term(13, "each sum, difference, product above 10 to the 6 is that");
        same(MILLION + "-1", "999*1000+999");
        same(MILLION + "+1", MILLION);
        same(MILLION + "+0", MILLION);
        same("1001*1000", MILLION);
        same("9999*9999", MILLION);
        same(MILLION + "-(0-1)", MILLION);
        holds("999*1001<" + MILLION, true);
        holds(MILLION + "=999*1001", false);
        same("9999*9999*9999*9999*9999*9999", MILLION);
        same("(0-9999*9999)*(0-9999*9999)", MILLION);
    }

    private static void promise13BelowAMillion() {
        S.term(13, "below -10 to the 6 likewise");
        same("0-" + MILLION + "+1", "0-(999*1000+999)");
        same("0-" + MILLION + "-1", "0-" + MILLION);
        same("(0-1001)*1000", "0-" + MILLION);
        same("(0-9999)*9999", "0-" + MILLION);
        same("(0-" + MILLION + ")+(0-1)", "0-" + MILLION);
        holds("0-999*1001>0-" + MILLION, true);
        holds("0-999*1001=0-" + MILLION, false);
        same("(0-9999*9999)*(9999*9999)", "0-" + MILLION);
    }

    /** What is cut off on the way does not come back. */
    private static void promise13EachOfThem() {
        S.term(13, "each sum, difference, product");
        same(MILLION + "+1000-1000", "999*1000");
        same("0-" + MILLION + "-1000+1000", "0-999*1000");
        same("2000*1000/2", "1000*500");
        same("2000*1000%7", MILLION + "%7");
        same("(" + MILLION + "+" + MILLION + ")/2", "1000*500");
        same("min(2000*1000,9999)", "9999");
        same("max(2000*1000,9999)", MILLION);
    }

    private static void promise13Facts() {
        S.term(13, "SUM SIGN SUM, SIGN being < or > or =");
        holds("1<1", false);
        holds("1>1", false);
        holds("1=1", true);
        holds("1<2", true);
        holds("2<1", false);
        holds("2>1", true);
        holds("1>2", false);
        holds("1=2", false);
        holds("all", true);
        holds("not all", false);
        holds("not not all", true);
        holds("not [all and not all]", true);
        holds("not 1<2", false);
        holds("not 2<1", true);
        holds("not 2>1", false);
        holds("not 1>2", true);
        holds("not 1=1", false);
        holds("not 1=2", true);
        holds("all and 1<2", true);
        holds("all and 2>1", true);
        holds("1=1 and all", true);
        holds("1<2 and 2>1 and 1=1", true);
        holds("not all and not all or all", true);
        holds("all or all and not all", true);
        holds("[all or all] and not all", false);
    }

    private static void promise13Parts() {
        S.term(13, "min ( SUM , SUM ) ; max ( SUM , SUM )");
        holds("min(1,2)=2", false);
        holds("max(1,2)=1", false);
        holds("2=min(1,2)", false);
        holds("1=max(1,2)", false);
        holds("min(1,2)+max(1,2)=4", false);
        same("min(1,2)", "1");
        same("min(2,1)", "1");
        same("max(1,2)", "2");
        same("max(2,1)", "2");
        same("min(2,2)+max(2,2)", "4");
        same("min(0-1,1)", "0-1");
        same("max(0-1,0-2)", "0-1");
        same("min(1+1,max(3,4)*2)", "2");
        same("0", "0000");
        same("9999", "3333*3");
    }

    private static void promise13NameOfOff() {
        S.term(13, "(0 .. FIELDS less 1; OFF is FIELDS)");
        SundayGame x = Check.gameOf("board 5;piece fox at 1 of 2;may fox off when all;wins when fox=5 and goal=5;stuck draws;");
        S.is("off is 5", x.worth(), 1);
        SundayGame y = Check.gameOf("board 5;piece fox at 1 of 2;piece hen at 1 of 2;may fox up 1 when hen=5;stuck draws;");
        S.is("a piece that is off is at 5", y.lawful(2 * (6 * 1 + 5), 0), 2);
        S.is("a piece on the last field is not", y.lawful(2 * (6 * 1 + 4), -1), 0);
    }
}
