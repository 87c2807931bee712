/** Promises 3 and 4: the language, its faults and their places. */
public final class FaultTest {
    private static final String NINE = "beast 1 1 1;".repeat(9);
    private static final String SIX = "bride 1;".repeat(6);

    private FaultTest() {
    }

    private static void fine(String text) {
        GivenAway x = new GivenAway();
        Check.due("dale '" + text + "'", Check.dale(x, text), 0);
        Check.due("fault of '" + text + "'", x.fault(), -1);
        Check.due("count(10) of '" + text + "'", x.count(10), 0);
        Check.due("count(9) of '" + text + "'", x.count(9), 0);
    }

    private static void faulty(String text, int fault, int place) {
        GivenAway x = Check.of("friend 5 5 5;");
        Check.due("dale '" + text + "'", Check.dale(x, text), fault);
        Check.due("fault of '" + text + "'", x.fault(), place);
        Check.due("count(10) of '" + text + "'", x.count(10), 1);
        Check.due("count(9) of '" + text + "'", x.count(9), 0);
        Check.due("people stay after '" + text + "'", x.count(0), 1);
        Check.due("grief stays after '" + text + "'", x.person(0, 1), 5);
    }

    private static void texts() {
        fine("");
        fine("  \n ");
        fine("father0 0 0;");
        fine("father 99 9 9;friend 0 0 0;suitor 0099 0009 9;beast 1 1 1;bride 60;bride 0;tie 0 0 40;tie 3 1 1;");
        fine("father\n1\n2\n3\n;\n");
        fine(NINE);
        fine(SIX);
        fine("mourns 1;weighs 1;");
        faulty("x", 1, 0);
        faulty(";", 1, 0);
        faulty("Father 1 1 1;", 1, 0);
        faulty("fathers 1 1 1;", 1, 0);
        faulty("fatherfriend 1 1 1;", 1, 0);
        faulty("grief;", 1, 0);
        faulty("12345;", 1, 0);
        faulty("\tbride 1;", 1, 0);
        faulty("bride\r1;", 1, 5);
        faulty("bride 1; \u00e9", 1, 9);
        faulty("bride 1; \0", 1, 9);
        faulty("father", 1, 6);
        faulty("father  ", 1, 8);
        faulty("father 1 1", 1, 10);
        faulty("father 1 1 1", 1, 12);
        faulty("father 1 1 1 1;", 1, 13);
        faulty("father 1 x 1;", 1, 9);
        faulty("father 1 -1 1;", 1, 9);
        faulty("bride;", 1, 5);
        faulty("bride 1 2;", 1, 8);
        faulty("tie 0 0 1", 3, 4);
    }

    private static void tooMuch() {
        faulty("father 100 1 1;", 2, 7);
        faulty("father 00001 1 1;", 2, 7);
        faulty("father 1 10 1;", 2, 9);
        faulty("father 1 1 10;", 2, 11);
        faulty("father 1 1 99999", 2, 11);
        faulty("bride 61;", 2, 6);
        faulty("father 1 1 1;bride 1;tie 0 0 0;", 2, 29);
        faulty("father 1 1 1;bride 1;tie 0 0 41;", 2, 29);
        faulty("father 1 1 1;bride 1;tie 00000 0 41;", 2, 25);
        faulty(NINE + "friend", 2, 108);
        faulty(NINE + " father 1", 2, 109);
        faulty(SIX + "bride", 2, 48);
        StringBuilder ties = new StringBuilder(NINE + SIX);
        for (int i = 0; i < 24; i++) {
            ties.append("tie ").append(i / 6).append(' ').append(i % 6).append(" 1;");
        }
        fine(ties.toString());
        faulty(ties + "tie 0 0 1;", 2, ties.length());
        faulty("weighs 12345;", 2, 7);
        fine("weighs 9999+0000;");
        faulty("weighs 00000;", 2, 7);
        fine("weighs (((((1)))));");
        faulty("weighs ((((((1))))));", 2, 13);
        faulty("weighs ((((((x))))));", 2, 13);
        faulty("weighs ((((((father))))));", 2, 13);
        faulty("weighs ((((((not 1))))));", 2, 13);
        faulty("weighs (((((((1)))))));", 2, 13);
        faulty("weighs ((((((12345))))));", 2, 13);
        faulty("weighs ((((((", 1, 13);
        faulty("weighs (((((()", 1, 13);
        faulty("weighs ((((((+1", 1, 13);
        fine("mourns (1)+(2)+(3)+(4)+(5)+(6)+(7)+(8);");
        fine("weighs not not not not not not 1;");
        faulty("weighs not not not not not not not 1;", 2, 31);
        faulty("weighs not not not not not not not", 2, 31);
        fine("weighs not not not not (not not not not 1) and not not not not not not 1;");
        fine("weighs not not not not not not 1 or not not not not not not 1;");
    }

    private static void unknown() {
        faulty("tie 0 0 1;", 3, 4);
        faulty("father 1 1 1;tie 0 0 1;", 3, 19);
        faulty("father 1 1 1;bride 1;tie 1 0 1;", 3, 25);
        faulty("father 1 1 1;bride 1;tie 0 1 1;", 3, 27);
        faulty("father 1 1 1;bride 1;tie 9 0 1;", 3, 25);
        faulty("father 1 1 1;bride 1;tie 0 9999 1;", 3, 27);
        faulty("father 1 1 1;bride 1;tie x 0 1;", 1, 25);
        faulty("weighs x;", 3, 7);
        faulty("weighs trains;", 3, 7);
        faulty("weighs or;", 3, 7);
        faulty("weighs father;", 3, 7);
        faulty("weighs 1 < not 1;", 3, 11);
        faulty("weighs 1 + not 1;", 3, 11);
        faulty("weighs not and;", 3, 11);
        faulty("weighs (years + yearss);", 3, 16);
        fine("weighs grief+onions+kind+led+day+years+left+rivals;");
        fine("mourns grief+onions+kind+led+day;");
        faulty("mourns years;", 3, 7);
        faulty("mourns 1+left;", 3, 9);
        faulty("mourns (rivals);", 3, 8);
    }

    private static void tiedAndTwice() {
        faulty("father 1 1 1;bride 1;tie 0 0 1;tie 0 0 2;", 4, 37);
        faulty("father 1 1 1;bride 1;bride 1;tie 0 0 1;tie 0 1 1;tie 0 1 99;", 4, 55);
        faulty("weighs 1;weighs 1;", 5, 9);
        faulty("weighs 1;mourns 1;mourns", 5, 18);
        faulty("mourns 1;mourns x;", 5, 9);
    }

    private static void expressions() {
        faulty("weighs", 1, 6);
        faulty("weighs ;", 1, 7);
        faulty("weighs 1", 1, 8);
        faulty("weighs 1 2;", 1, 9);
        faulty("weighs 1 23456;", 1, 9);
        faulty("weighs grief onions;", 1, 13);
        faulty("weighs 1 not 1;", 1, 9);
        faulty("weighs 1 < 2 < 3;", 1, 13);
        faulty("weighs 1 = 2 < 3;", 1, 13);
        fine("weighs (1 < 2) < 3;");
        fine("weighs 1 < 2 + 3 * 4 and 5 = 6 / 7 or not 8;");
        faulty("weighs -1;", 1, 7);
        faulty("weighs 1+;", 1, 9);
        faulty("weighs (1;", 1, 9);
        faulty("weighs (1", 1, 9);
        faulty("weighs 1);", 1, 8);
        faulty("weighs ();", 1, 8);
        faulty("weighs 1 ! 2;", 1, 9);
        faulty("weighs 1 > 2;", 1, 9);
        faulty("weighs * 2;", 1, 7);
        fine("weighs(1)" + "+1".repeat(340) + ";");
    }

    private static void wholeTape() {
        String lines = "weighs 1" + "+1".repeat(345) + " ;";
        Check.due("a text of 700", lines.length(), 700);
        fine(lines);
        faulty(lines.substring(0, 699) + "+", 1, 700);
    }

    private static void cutOff(String text, int n, int fault, int place) {
        GivenAway x = new GivenAway();
        Check.feed(x, text);
        Check.due("dale(" + n + ") of " + text, x.dale(n), fault);
        Check.due("fault by dale(" + n + ") of " + text, x.fault(), place);
    }

    private static void cutTokens() {
        cutOff("bride 12;", 7, 1, 7);
        cutOff("bride 12;", 8, 1, 8);
        cutOff("bride 12;", 6, 1, 6);
        cutOff("brides", 5, 1, 5);
        cutOff("weighs 12345;", 11, 1, 11);
        cutOff("weighs grief;", 11, 3, 7);
        cutOff("weighs 1;;", 9, 0, -1);
        faulty("weighs z;", 3, 7);
        faulty("weighs a;", 3, 7);
        faulty("weighs {;", 1, 7);
        faulty("weighs `;", 1, 7);
        faulty("weighs :;", 1, 7);
        fine("weighs 9;");
    }

    public static void main(String[] args) {
        texts();
        cutTokens();
        tooMuch();
        unknown();
        tiedAndTwice();
        expressions();
        wholeTape();
        Check.end("FaultTest");
    }
}
