/** Promises 7 to 11, and what the terms say of shares and of texts. */
public final class RulesAndLawTest {
    private RulesAndLawTest() {
    }

    public static void main(String[] args) {
        rule();
        ruleTold();
        shares();
        feed();
        rightTexts();
        wrongTexts();
        values();
        bounds();
        force();
        Check.finish();
    }

    private static LastKeg four() {
        LastKeg x = new LastKeg();
        x.man(10, 2);
        x.man(30, 0);
        x.man(5, 1);
        x.man(8, 0);
        x.boat(1, 999);
        x.boat(2, 20);
        x.boat(3, 9999);
        return x;
    }

    private static void rule() {
        LastKeg x = four();
        Check.due("7: rule(0, 0, -9)", x.rule(0, 0, -9), 0);
        Check.due("7: rule(5, 99, 4)", x.rule(5, 99, 4), 1);
        Check.due("7: rule(-1, 0, 0)", x.rule(-1, 0, 0), -2);
        Check.due("7: rule(6, 0, 0)", x.rule(6, 0, 0), -2);
        Check.due("7: rule(0, -1, 0)", x.rule(0, -1, 0), -2);
        Check.due("7: rule(0, 100, 0)", x.rule(0, 100, 0), -2);
        Check.due("7: rule(4, 0, 4)", x.rule(4, 0, 4), -2);
        Check.due("7: rule(4, 0, -1)", x.rule(4, 0, -1), -2);
        Check.due("7: MORE ahead of -11", x.rule(4, 100, 0), -2);
        Check.due("7: missing", x.rule(4, 0, 0), -11);
        Check.sheet(x, 0, 1, 2, 3);
        Check.due("7: too short", x.rule(4, 0, 0), -2);
        Check.sheet(x, 0, 1, 2, 3, 4, 5);
        Check.due("7: too long", x.rule(4, 0, 0), -2);
        Check.sheet(x, 0, 1, 2, 51, 4);
        Check.due("7: 51", x.rule(4, 0, 0), -2);
        Check.sheet(x, 0, -1, 2, 3, 4);
        Check.due("7: -1", x.rule(4, 0, 0), -2);
        Check.sheet(x, 0, 0, 50, 3, 4);
        Check.due("7: rule(4, 5, 0)", x.rule(4, 5, 0), 2);
        Check.due("7: three stand", x.boatTold(5), 3);
        for (int r = 3; r < 8; r++) {
            Check.due("7: rule " + r, x.rule(r % 4, r, 0), r);
        }
        Check.due("7: the ninth", x.rule(0, 0, 0), -4);
        Check.due("7: BAD ahead of FULL", x.rule(0, 100, 0), -2);
        Check.due("7: -11 ahead of FULL", x.rule(4, 0, 3), -11);
        Check.sheet(x, 3, 1);
        Check.due("7: BAD size ahead of FULL", x.rule(4, 0, 3), -2);
        Check.due("7: KIND 4 when full", x.rule(4, 0, 0), -4);
        Check.due("8: the last rule", x.ruleTold(7, 1), 7);
        Check.due("8: none behind it", x.ruleTold(8, 1), -5);
        LastKeg none = new LastKeg();
        none.sheet(2, 0, 0);
        Check.due("7: KIND 4 without men", none.rule(4, 0, 2), 0);
        none.man(9, 0);
        Check.due("7: a later man is told 0", none.told(0, 0, 0, 1), 0);
    }

    private static void ruleTold() {
        LastKeg x = four();
        Check.due("8: no rule", x.ruleTold(0, 0), -5);
        Check.sheet(x, 0, 7, 0, 50, 9);
        x.rule(4, 33, 0);
        x.rule(3, 99, 0);
        Check.sheet(x, 0, 1, 1, 1, 1);
        int[] told = {4, 33, 7, 0, 50, 9, 0, 0, 0, 0};
        int[] other = {3, 99, 0, 0, 0, 0, 0, 0, 0, 0};
        for (int what = 0; what < 10; what++) {
            Check.due("8: ruleTold(0, " + what + ")", x.ruleTold(0, what), told[what]);
            Check.due("8: ruleTold(1, " + what + ")", x.ruleTold(1, what), other[what]);
        }
        Check.due("8: ruleTold(0, 10)", x.ruleTold(0, 10), -7);
        Check.due("8: ruleTold(0, -1)", x.ruleTold(0, -1), -7);
        Check.due("8: ruleTold(2, 0)", x.ruleTold(2, 0), -5);
        Check.due("8: ruleTold(-1, 99)", x.ruleTold(-1, 99), -5);
    }

    private static void gets(LastKeg x, int r, int d, int... want) {
        for (int m = 0; m < want.length; m++) {
            Check.due("shares: rule " + r + " day " + d + " man " + m, x.told(r, d, m, 1), want[m]);
        }
    }

    private static void shares() {
        LastKeg x = four();
        Check.sheet(x, 0, 3, 0, 9, 50);
        x.rule(0, 0, 0);
        x.rule(1, 0, 0);
        x.rule(2, 10, 0);
        x.rule(3, 10, 0);
        x.rule(3, 9, 0);
        x.rule(4, 0, 0);
        x.rule(5, 0, 0);
        x.rule(5, 1, 0);
        gets(x, 0, 0, 5, 5, 5, 5);
        gets(x, 1, 0, 6, 4, 6, 4);
        gets(x, 2, 0, 4, 4, 7, 5);
        gets(x, 3, 0, 4, 4, 12, 0);
        gets(x, 4, 0, 4, 8, 7, 1);
        gets(x, 5, 0, 3, 0, 9, 8);
        gets(x, 6, 0, 3, 2, 3, 2);
        gets(x, 7, 0, 6, 4, 6, 4);
        gets(x, 7, 1, 3, 2, 3, 2);
        // (7 + 10) modulo 4 is 1; stores are then 9, 31, 13, 5.
        gets(x, 3, 1, 7, 8, 4, 1);
        x.boat(2, 3);
        gets(x, 1, 0, 1, 0, 1, 0);
        gets(x, 2, 0, 0, 0, 2, 1);
        x.boat(2, 23);
        gets(x, 0, 0, 5, 5, 5, 5);
        x.boat(1, 12);
        gets(x, 0, 0, 5, 5, 2, 0);
        x.day(0, 1, 7);
        gets(x, 0, 0, 5, 5, 5, 4);
        lotOfTheLiving();
    }

    /** Man 0 dies on day 0, so of those who drink on day 1 man 1 is the first. */
    private static void lotOfTheLiving() {
        LastKeg x = new LastKeg();
        x.man(1, 9);
        x.man(40, 0);
        x.man(40, 0);
        x.boat(2, 12);
        x.rule(3, 1, 0);
        gets(x, 0, 0, 3, 6, 3);
        // (7 + 1) modulo 2 is 0: man 1; 12 by 2, 1 less, twice.
        gets(x, 0, 1, 0, 10, 2);
        lotOfOne();
    }

    /** 2 less 1 is 1 by NEED; LOT doubles it for one who drinks alone. */
    private static void lotOfOne() {
        LastKeg x = new LastKeg();
        x.man(40, 0);
        x.boat(2, 2);
        x.rule(2, 0, 0);
        x.rule(3, 0, 0);
        gets(x, 0, 0, 1);
        gets(x, 1, 0, 2);
    }

    private static void feed() {
        LastKeg x = new LastKeg();
        Check.due("9: n 0", x.feed(1, 0), -2);
        Check.due("9: n 9", x.feed(1, 9), -2);
        Check.due("9: n -1", x.feed(1, -1), -2);
        Check.due("9: n MIN", x.feed(1, Integer.MIN_VALUE), -2);
        for (int i = 1; i <= 19; i++) {
            Check.due("9: eights", x.feed(-1, 8), 8 * i);
        }
        Check.due("9: 7 more", x.feed(0, 7), 159);
        Check.due("9: 2 more", x.feed(0, 2), -4);
        Check.due("9: they did not come", x.boatTold(8), 159);
        Check.due("9: 1 more", x.feed(0, 1), 160);
        Check.due("9: full", x.feed(0, 1), -4);
        Check.due("9: BAD ahead of FULL", x.feed(0, 9), -2);
        Check.due("9: it stays", x.boatTold(8), 160);
        x.text();
        // "need 1;r", then the lowest bytes of more: "ow 2;".
        x.feed(0x6e65656420313b72L, 8);
        x.feed(0x7878786f7720323bL, 5);
        Check.due("9: highest first, lowest bytes", x.text(), 1);
    }

    private static void right(String text) {
        LastKeg x = new LastKeg();
        Check.due("10: " + text, Check.read(x, text), 1);
        Check.due("10: then THE TAPE is empty", x.boatTold(8), 0);
        Check.due("10: two texts", x.boatTold(6), 2);
        Check.due("10: THE LAW stays", x.boatTold(7), 0);
    }

    private static void rightTexts() {
        right("need 1;row 1;");
        right("need1;row2;");
        right(" \n need\n1 ; row 1 ;\n ");
        right("need 3 + rows ; row rows * 4 ;");
        right("need 9999;row 0001;");
        right("need store;row rows+day+share+alive+more;");
        right("need (((((1)))));row 1;");
        right("need -----1;row 1;");
        right("need not not not not not 1;row 1;");
        right("need not(-(-1));row 1;");
        right("need (1)+(((((1)))));row -(-(-1));");
        right("need -1+-1+-1+-1+-1+-1+-1;row 1;");
        right("need not 1 and not 1 and not 1 or not 1 and not 1 and not 1;row 1;");
        right("need 1 - - 1--1;row 1;");
        right("need (1<2)<3;row (1=2)=(not 3);");
        right("need not 1<2;row not not 1=2;");
        right("need(1)or(2)and(3);row(1)or(2);");
    }

    private static void wrong(String text, int place) {
        LastKeg x = new LastKeg();
        Check.due("10: " + text, Check.read(x, text), -100 - place);
        Check.due("10: then THE TAPE is empty", x.boatTold(8), 0);
        Check.due("10: no text came", x.boatTold(6), 1);
    }

    private static void wrongTexts() {
        wrong("", 0);
        wrong(" \n ", 3);
        wrong("need", 4);
        wrong("row 1;need 1;", 0);
        wrong("needs 1;row 1;", 0);
        wrong("needz 1;row 1;", 0);
        wrong("xeed 1;row 1;", 0);
        wrong("need 1;xow 1;", 7);
        wrong("need 1;row {;", 11);
        wrong("need 1;row /;", 11);
        wrong("need 1;row :;", 11);
        wrong("need 1;row `;", 11);
        wrong("need 1;row 1", 12);
        wrong("need 1;row 1  ", 14);
        wrong("need 1;row 1;x", 13);
        wrong("need 1;row 1;;", 13);
        wrong("need 1;row 1; need", 14);
        wrong("need 12345;row 1;", 5);
        wrong("need 00001;row 1;", 5);
        wrong("need 1 2;row 1;", 7);
        wrong("need 1\t;row 1;", 6);
        wrong("need A;row 1;", 5);
        wrong("need 1,2;row 1;", 6);
        wrong("need \u00ff;row 1;", 5);
        wrong("need 1\u0000;row 1;", 6);
        wrong("need (1;row 1;", 7);
        wrong("need ();row 1;", 6);
        wrong("need 1);row 1;", 6);
        wrong("need (1", 7);
        wrong("need ((((((1))))));row 1;", 10);
        wrong("need ------1;row 1;", 10);
        wrong("need not not not not not not 1;row 1;", 25);
        wrong("need not(-(-(1)));row 1;", 12);
        wrong("need 1;row 1+((((-(2)))));", 18);
        wrong("need not 1 = not 1;row 1;", 13);
        wrong("need 1 + not 1;row 1;", 9);
        wrong("need 1 < 2 < 3;row 1;", 11);
        wrong("need 1 = 2 < 3;row 1;", 11);
        wrong("need not 1 < 2 = 3;row 1;", 15);
        wrong("need 1 or;row 1;", 9);
        wrong("need or 1;row 1;", 5);
        wrong("need row;row 1;", 5);
        wrong("need need;row 1;", 5);
        wrong("need storerows;row 1;", 5);
        wrong("need ro;row 1;", 5);
        wrong("need 1+;row 1;", 7);
        wrong("need *1;row 1;", 5);
        wrong("need +1;row 1;", 5);
        wrong("need ;row 1;", 5);
        wrong("need 1 row 1;", 7);
        wrong("need 1;rows 1;", 7);
        wrong("need 1=;row 1;", 7);
        StringBuilder long1 = new StringBuilder("need 0");
        while (long1.length() < 152) {
            long1.append("+1");
        }
        right(long1 + ";row 11;");
        wrong(long1 + ";row 111", 160);
        wrong(long1 + ";row day", 160);
        wrong(long1 + ";row dax", 157);
        fullOfTexts();
        oneLongTextBehindAnother(long1 + ";row 11;");
    }

    /** What was read ahead leaves nothing behind, be it right or wrong. */
    private static void oneLongTextBehindAnother(String text) {
        LastKeg x = new LastKeg();
        for (int t = 1; t < 6; t++) {
            Check.due("10: long text " + t, Check.read(x, text), t);
            if (t < 5) {
                Check.due("10: long wrong text", Check.read(x, text.replace(";row", ";raw")), -253);
            }
        }
    }

    private static void fullOfTexts() {
        LastKeg x = new LastKeg();
        for (int t = 1; t < 6; t++) {
            Check.due("10: text " + t, Check.read(x, "need 1;row 1;"), t);
        }
        Check.feed(x, "nonsense");
        Check.due("10: FULL ahead of the FAULT", x.text(), -4);
        Check.due("10: then THE TAPE stays", x.boatTold(8), 8);
        Check.due("10: six texts", x.boatTold(6), 6);
    }

    /** What row says of one man: STORE 50, rows 3, gets 12, MORE 7, on day 0. */
    private static void row(String e, int want) {
        LastKeg x = new LastKeg();
        x.man(50, 3);
        x.rule(0, 7, 0);
        x.boat(3, 9999);
        Check.due("10: " + e, Check.read(x, "need 0;row " + e + ";"), 1);
        x.force(1);
        Check.due("texts: " + e, x.told(0, 1, 0, 3), want);
    }

    private static void values() {
        row("2+3*4", 14);
        row("(2+3)*4", 20);
        row("10-3-2", 5);
        row("10-3*2", 4);
        row("2*3*4", 24);
        row("1<2", 1);
        row("2<2", 0);
        row("3<2", 0);
        row("2=2", 1);
        row("2=3", 0);
        row("1+1=2", 1);
        row("5-(1=1)", 4);
        row("not 0", 1);
        row("not 5", 0);
        row("not not 5", 1);
        row("not 1=2", 1);
        row("not 0 and 0", 0);
        row("3 or 0", 1);
        row("0 or 0-4", 1);
        row("0 or 0", 0);
        row("2 and 4", 1);
        row("2 and 0", 0);
        row("0 and 2", 0);
        row("1 or 0 and 0", 1);
        row("(1 or 0) and 0", 0);
        row("0 and 0 or 1", 1);
        row("-3+10", 7);
        row("- -5", 5);
        row("-2*-3", 6);
        row("2--3", 5);
        row("-2+3", 1);
        row("4096*4096*256+7", 7);
        row("4096*4096*128<0", 1);
        row("-(4096*4096*128)=4096*4096*128", 1);
        row("0<0-9999*9999*30", 1);
        row("store", 50);
        row("rows", 3);
        row("day+1", 1);
        row("share", 12);
        row("alive", 1);
        row("more", 7);
        row("0012", 12);
    }

    private static void bounds() {
        row("0-1", 0);
        row("99", 99);
        row("100", 99);
        row("9999*9999", 99);
        LastKeg x = new LastKeg();
        x.man(50, 3);
        x.rule(0, 0, 0);
        x.boat(3, 9999);
        Check.read(x, "need 20+(day=1);row day*10;");
        Check.read(x, "need 0-5;row alive;");
        Check.read(x, "need 0;row (store<50)*50+share;");
        x.force(1);
        Check.due("need 20", x.told(0, 1, 0, 0), 42);
        Check.due("need 21", x.told(0, 2, 0, 0), 34);
        Check.due("day", x.told(0, 3, 0, 3), 30);
        x.force(2);
        Check.due("need below 0", x.told(0, 1, 0, 0), 62);
        x.man(99, 0);
        Check.due("alive by each", x.told(0, 1, 0, 3), 4);
        Check.due("STORE at most 99", x.told(0, 1, 1, 0), 99);
        x.force(3);
        Check.due("STORE as the day begins", x.told(0, 1, 0, 3), 12);
    }

    private static void force() {
        LastKeg x = new LastKeg();
        Check.due("11: force(0)", x.force(0), 0);
        Check.due("11: force(1)", x.force(1), -2);
        Check.due("11: force(-1)", x.force(-1), -2);
        Check.due("11: force(6)", x.force(6), -2);
        Check.due("11: force(MAX)", x.force(Integer.MAX_VALUE), -2);
        Check.read(x, "need 1;row 1;");
        Check.read(x, "need 2;row 2;");
        Check.due("11: force(2)", x.force(2), 0);
        Check.due("11: force(1)", x.force(1), 2);
        Check.due("11: force(3)", x.force(3), -2);
        Check.due("11: nothing changed", x.boatTold(7), 1);
        Check.due("11: force(0)", x.force(0), 1);
    }
}
