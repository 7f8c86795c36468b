import java.util.function.Supplier;

/** THE TAPE, TOKENS, TEXT, FAULT, what may stand open, an E, TEXTS, need and row: promises 9 to 11. */
final class TextBounds {
    private static final int LOW = Integer.MIN_VALUE, HIGH = Integer.MAX_VALUE;

    /** As low and as high as an E goes; NUMBERS are 9999 at most. */
    private static final String LEAST = "4096*4096*128", MOST = "(4096*4096*128-1)";

    private TextBounds() {
    }

    static void all() {
        tape();
        fullTape();
        tapeAgain();
        words();
        misspelt();
        numbers();
        bytes();
        early();
        firstFault();
        grammar();
        open();
        openTogether();
        closed();
        texts();
        values();
        wrapping();
        truth();
        bounds();
        facts();
        lesserFacts();
        force();
    }

    private static void right(String name, String text) {
        Check.test("10: " + name, () -> {
            LastKeg x = new LastKeg();
            Check.due(text, Check.read(x, text), 1);
            Check.due("THE TAPE is empty then", x.boatTold(8), 0);
            Check.due("TEXTS", x.boatTold(6), 2);
            Check.due("THE LAW stays", x.boatTold(7), 0);
        });
    }

    /** A FAULT: THE TAPE is empty then, all else as in an object that read nothing. */
    private static void fault(String name, String text, int place) {
        Check.test("10: " + name, () -> {
            LastKeg x = new LastKeg();
            Check.due(text, Check.read(x, text), -100 - place);
            Check.due("THE TAPE is empty then", x.boatTold(8), 0);
            Check.due("TEXTS", x.boatTold(6), 1);
            Probe.alike(x, new LastKeg());
        });
    }

    private static void tape() {
        Supplier<LastKeg> made = LastKeg::new;
        for (int n = 1; n <= 8; n++) {
            Range.answered("9: n is taken", made, (x, v) -> x.feed(0, v), n, n);
        }
        Range.answered("9: n is refused", made, (x, v) -> x.feed(0, v), -2, LOW, -1, 0, 9, HIGH);
        Check.test("9: a refused n brings no byte", () -> {
            LastKeg x = new LastKeg();
            x.feed('n', 0);
            x.feed('n', 9);
            Check.due("bytes", x.boatTold(8), 0);
            Check.due("text", Check.read(x, "need 1;row 1;"), 1);
        });
        Check.test("9: the n lowest bytes, w as low as a long goes", () -> {
            LastKeg x = new LastKeg();
            Check.feed(x, "need 1;row 1");
            Check.due("feed", x.feed(Long.MIN_VALUE + ';', 1), 13);
            Check.due("text", x.text(), 1);
            x.feed(Long.MIN_VALUE, 8);
            Check.due("its highest byte first", x.text(), -100);
            Check.feed(x, "need 1;row 1;");
            x.feed(Long.MIN_VALUE, 7);
            Check.due("its lowest bytes are 0", x.text(), -113);
        });
        Check.test("9: the n lowest bytes, w as high as a long goes", () -> {
            LastKeg x = new LastKeg();
            Check.feed(x, "need 1;row 1");
            Check.due("feed", x.feed(Long.MAX_VALUE - 255 + ';', 1), 13);
            Check.due("text", x.text(), 1);
            Check.feed(x, "need 1;row 1;");
            x.feed(Long.MAX_VALUE, 8);
            Check.due("its highest byte is 127", x.text(), -113);
        });
        for (int n = 1; n <= 8; n++) {
            int parts = n;
            Check.test("9: the highest first, by " + n, () -> Check.due("text", byParts("need 12;row 34;", parts), 1));
        }
    }

    /** Each part with letters ahead of it in the long, which don't come. */
    private static int byParts(String text, int n) {
        LastKeg x = new LastKeg();
        for (int from = 0; from < text.length(); from += n) {
            int to = Math.min(from + n, text.length());
            long w = 0x7878787878787878L;
            for (int i = from; i < to; i++) {
                w = w << 8 | text.charAt(i);
            }
            x.feed(w, to - from);
        }
        int t = x.text();
        x.man(50, 0);
        x.rule(0, 0, 0);
        x.boat(3, 9999);
        x.boat(1, 0);
        x.force(t);
        return x.told(0, 1, 0, 0) == 38 && x.told(0, 1, 0, 3) == 34 ? t : -1;
    }

    private static LastKeg blanks(int n) {
        LastKeg x = new LastKeg();
        for (int i = 0; i < n / 8; i++) {
            x.feed(0x2020202020202020L, 8);
        }
        if (n % 8 > 0) {
            x.feed(0x2020202020202020L, n % 8);
        }
        return x;
    }

    private static void fullTape() {
        Check.test("9: the 160th byte is taken", () -> Check.due("feed", blanks(159).feed(32, 1), 160));
        Check.test("9: the 161st byte is FULL", () -> {
            LastKeg x = blanks(160);
            Check.due("feed", x.feed(32, 1), -4);
            Check.due("bytes", x.boatTold(8), 160);
        });
        for (int n = 2; n <= 8; n++) {
            int more = n;
            Check.test("9: " + n + " bytes behind " + (160 - n) + " are taken", () ->
                Check.due("feed", blanks(160 - more).feed(32, more), 160));
            Check.test("9: " + n + " bytes behind " + (161 - n) + " are FULL, none of them comes", () -> {
                LastKeg x = blanks(161 - more);
                Check.due("feed", x.feed(0, more), -4);
                Check.due("bytes", x.boatTold(8), 161 - more);
                Check.due("the FAULT is the size", x.text(), -100 - (161 - more));
            });
        }
        Check.test("10: a full TAPE of blanks, the FAULT is 160", () -> {
            LastKeg x = blanks(160);
            Check.due("text", x.text(), -260);
            Check.due("bytes", x.boatTold(8), 0);
            Check.due("it takes bytes again", x.feed(32, 8), 8);
        });
        Check.test("10: an empty TAPE, the FAULT is 0", () -> {
            LastKeg x = new LastKeg();
            Check.due("text", x.text(), -100);
            Check.due("text again", x.text(), -100);
            Check.due("TEXTS", x.boatTold(6), 1);
        });
        right("a TEXT of 160 bytes, blanks at its end", padded("need 1;row 1;"));
        right("a TEXT of 160 bytes, blanks ahead of it", padded("").substring(13) + "need 1;row 1;");
        right("a TEXT of 160 bytes, all of it TOKENS", longest());
        fault("a TEXT of 160 bytes lacks its last sign", longest().substring(0, 159) + "1", 160);
        fault("a TEXT of 160 bytes, its last sign is wrong", longest().substring(0, 159) + ":", 159);
    }

    private static void tapeAgain() {
        String blanks = padded("need 1;row 12").substring(13);
        fault("a full TAPE that ends in a WORD", "need 1;" + blanks + "row da", 158);
        fault("a full TAPE that ends in a NAME", "need 1;" + blanks.substring(1) + "row day", 160);
        fault("a full TAPE that ends in a NUMBER", "need 1;" + blanks + "row 12", 160);
        Check.test("10: what stood on THE TAPE ahead is not read again", () -> {
            LastKeg x = new LastKeg();
            Check.due("rows", Check.read(x, "need 1;row rows;"), 1);
            Check.due("row", Check.read(x, "need 1;row row"), -111);
            Check.due("too long", Check.read(x, "need 1;row 12345;"), -111);
            Check.due("not too long", Check.read(x, "need 1;row 1234"), -115);
            Check.due("all", Check.read(x, "need 1;row 1;"), 2);
            Check.due("all but the last", Check.read(x, "need 1;row 1"), -112);
        });
        Check.test("10: five TEXTS of 160 bytes, and a FAULT behind each", () -> {
            LastKeg x = new LastKeg();
            x.man(99, 0);
            x.rule(0, 0, 0);
            x.boat(3, 9999);
            for (int t = 1; t < 6; t++) {
                Check.due("text", Check.read(x, longest()), t);
                Check.due("force", x.force(t), t - 1);
                Check.due("MILES", x.told(0, 1, 0, 3), 11);
                if (t < 5) {
                    Check.due("FAULT", Check.read(x, longest().replace(";row", ";raw")), -253);
                }
            }
        });
    }

    private static String padded(String text) {
        StringBuilder s = new StringBuilder(text);
        while (s.length() < 160) {
            s.append(' ');
        }
        return s.toString();
    }

    private static String longest() {
        StringBuilder s = new StringBuilder("need 1");
        while (s.length() < 152) {
            s.append("+1");
        }
        return s.append(";row 11;").toString();
    }

    private static void words() {
        right("WORDS: a NUMBER ends one", "need1;row1;");
        right("WORDS: one ends a NUMBER", "need 1or 2;row 2and 3;");
        right("WORDS: a NUMBER between two", "need 1or2and3;row 1;");
        right("WORDS: a sign ends one", "need(1)or(2);row(not(1));");
        right("WORDS: a line's end ends one", "need\nstore\nor\nrows;row\nday;");
        right("WORDS: all NAMES", "need store+rows+day;row share+alive+more;");
        String[] wrong = {"needs", "needa", "needz", "aneed", "zneed", "nee", "eed", "rowneed", "a", "z", "row",
            "rows", "or", "and", "not", "store", "1need", "Need"};
        for (String word : wrong) {
            fault("WORDS: " + word + " does not stand for need", word + " 1;row 1;", 0);
        }
        for (String word : new String[] {"rows", "rowa", "rowz", "arow", "zrow", "ro", "ow", "r", "need", "rowrow",
            "or", "and", "not", "day", "1row", "ROW"}) {
            fault("WORDS: " + word + " does not stand for row", "need 1;" + word + " 1;", 7);
        }
        String[] noNames = {"stor", "stores", "row", "rowss", "da", "days", "shar", "shares", "aliv", "alived", "mor", "mores",
            "need", "or", "and", "storerows", "storestore", "z", "a", "nota", "notnot", "ora", "anda"};
        for (String word : noNames) {
            fault("WORDS: " + word + " is no NAME", "need " + word + ";row 1;", 5);
        }
        for (String word : new String[] {"oror", "orand", "andor", "ors", "ands", "not", "store", "need", "row", "o", "an"}) {
            fault("WORDS: " + word + " does not join", "need 1 " + word + " 1;row 1;", 7);
        }
    }

    /** Each letter of each WORD put wrong: it is no WORD any more. */
    private static void misspelt() {
        String[] words = {"need", "row", "or", "and", "not", "store", "rows", "day", "share", "alive", "more"};
        String[] texts = {"# 1;row 1;", "need 1;# 1;", "need 1 # 1;row 1;", "need 1 # 1;row 1;", "need # 1;row 1;",
            "need #;row 1;",
            "need #;row 1;", "need #;row 1;", "need #;row 1;", "need #;row 1;", "need #;row 1;"};
        for (int i = 0; i < words.length; i++) {
            String word = words[i];
            int place = texts[i].indexOf('#');
            right("WORDS: " + word + " is one", texts[i].replace("#", word));
            for (int k = 0; k < word.length(); k++) {
                String other = word.substring(0, k) + "x" + word.substring(k + 1);
                fault("WORDS: " + other + " is none", texts[i].replace("#", other), place);
            }
        }
    }

    private static void numbers() {
        for (String number : new String[] {"0", "9", "00", "0000", "0009", "1000", "9999"}) {
            right("NUMBERS: " + number + " is taken", "need " + number + ";row " + number + ";");
        }
        for (String number : new String[] {"00000", "10000", "99999", "00001", "123456", "99999999999999999999"}) {
            fault("NUMBERS: " + number + " is too long for need", "need " + number + ";row 1;", 5);
            fault("NUMBERS: " + number + " is too long for row", "need 1;row 1+" + number + ";", 13);
        }
        fault("NUMBERS: a blank parts them", "need 12 34;row 1;", 8);
        right("NUMBERS: 4 digits end at a sign", "need 9999-9999;row 9999*9999;");
    }

    /** Each of the 256 bytes behind a NUMBER that is whole. */
    private static void bytes() {
        for (int b = 0; b < 256; b++) {
            String name = "BYTES: " + b + " behind a NUMBER";
            String text = "need 1" + (char) b + ";row 1;";
            if (b == 32 || b == 10 || b >= '0' && b <= '9') {
                right(name, text);
            } else if (b == ';' || b == '+' || b == '-' || b == '*' || b == '<' || b == '=') {
                fault(name, text, 7);
            } else {
                fault(name, text, 6);
            }
        }
        for (int b : new int[] {0, 9, 11, 13, 31, 33, '/', ':', '@', '`', '{', 127, 128, 160, 255}) {
            fault("BYTES: " + b + " ahead of all", (char) b + "need 1;row 1;", 0);
            fault("BYTES: " + b + " behind all", "need 1;row 1;" + (char) b, 13);
            fault("BYTES: " + b + " in a WORD", "ne" + (char) b + "ed 1;row 1;", 0);
            fault("BYTES: " + b + " behind a NAME", "need store" + (char) b + ";row 1;", 10);
        }
        right("BYTES: blanks 32 and 10 between all", "\n need \n( 1\n) \n; row\n\n 1 ;\n ");
    }

    /** Each beginning of a TEXT ends too early, with blanks or without. */
    private static void early() {
        String[] tokens = {"need", " not", " -", " (", "1", " or", " 1", " )", " <", " 2", " ;", " row", " share",
            " *", " 3", ";"};
        StringBuilder text = new StringBuilder();
        for (String token : tokens) {
            String begun = text.toString();
            fault("EARLY: it ends behind '" + begun + "'", begun, begun.length());
            fault("EARLY: it ends in blanks behind '" + begun + "'", begun + " \n ", begun.length() + 3);
            text.append(token);
        }
        right("EARLY: the whole of it", text.toString());
        fault("EARLY: a WORD that is cut is no NAME", "need 1;row stor", 11);
    }

    private static void firstFault() {
        fault("FAULT: the first of two", "need %;row %;", 5);
        fault("FAULT: the first, though a later TOKEN is too long", "need 1 2;row 12345;", 7);
        fault("FAULT: too long ahead of one that can't stand there", "need 12345 2;row 1;", 5);
        fault("FAULT: behind the last ;", "need 1;row 1;;", 13);
        fault("FAULT: a second TEXT behind the first", "need 1;row 1; need 1;row 1;", 14);
        fault("FAULT: row ahead of need", "row 1;need 1;", 0);
        fault("FAULT: no ; behind need's E", "need 1 row 1;", 7);
        fault("FAULT: its first byte, behind blanks", "need  \n 1  %;row 1;", 11);
        fault("FAULT: need twice", "need 1;need 1;", 7);
        fault("FAULT: an empty E", "need ;row 1;", 5);
        fault("FAULT: an empty E of row", "need 1;row ;", 11);
        fault("FAULT: an empty ( )", "need ();row 1;", 6);
    }

    private static void grammar() {
        right("E: or again and again", "need 1 or 2 or 3 or 4 or 5 or 6 or 7;row 1;");
        right("E: and again and again", "need 1 and 2 and 3 and 4 and 5 and 6 and 7;row 1;");
        right("E: + and - again and again", "need 1+2-3+4-5+6-7+8;row 1;");
        right("E: * again and again", "need 1*2*3*4*5*6*7;row 1;");
        right("E: < between two sums", "need 1+1<2*2;row 1;");
        right("E: = between two sums", "need 1+1=2*2;row 1;");
        right("E: < in ( ) on either side of =", "need (1<2)=(2<3);row 1;");
        fault("E: < a second time", "need 1<2<3;row 1;", 8);
        fault("E: = a second time", "need 1=2=3;row 1;", 8);
        fault("E: < and then =", "need 1<2=3;row 1;", 8);
        fault("E: = and then <, behind not", "need not 1=2<3;row 1;", 12);
        fault("E: not behind =", "need 1=not 2;row 1;", 7);
        fault("E: not behind +", "need 1+not 2;row 1;", 7);
        fault("E: not behind *", "need 1*not 2;row 1;", 7);
        fault("E: not behind -", "need -not 2;row 1;", 6);
        right("E: not behind or and and", "need 1 or not 2 and not 3;row 1;");
        right("E: - behind each sign", "need 1+-2--3*-4<-5;row (-1)=-2;");
        right("E: ( behind each sign", "need 1+(2)-(3)*(4)<(5);row -(1)=(2);");
        fault("E: + ahead of a ONE", "need +1;row 1;", 5);
        fault("E: or ahead of all", "need or 1;row 1;", 5);
        fault("E: two NAMES", "need store rows;row 1;", 11);
        fault("E: a ( behind a ONE", "need 1(2);row 1;", 6);
        fault("E: a not behind a ONE", "need 1 not 2;row 1;", 7);
        fault("E: a ) too many", "need (1));row 1;", 8);
        fault("E: a ) too few", "need ((1);row 1;", 9);
        fault("E: a ) of need in row", "need (1;row 1);", 7);
    }

    private static void open() {
        right("OPEN: 5 (", "need (((((1)))));row (((((1)))));");
        fault("OPEN: a sixth (", "need ((((((1))))));row 1;", 10);
        fault("OPEN: a sixth ( in row", "need 1;row ((((((1))))));", 16);
        right("OPEN: 5 not", "need not not not not not 1;row not not not not not 1;");
        fault("OPEN: a sixth not", "need not not not not not not 1;row 1;", 25);
        right("OPEN: 5 -", "need -----1;row -----1;");
        fault("OPEN: a sixth -", "need ------1;row 1;", 10);
        fault("OPEN: a sixth, whatever is wrong behind it", "need ((((((%", 10);
        fault("OPEN: a ( in 5 not", "need not not not not not (1);row 1;", 25);
        fault("OPEN: a - in 5 not", "need not not not not not -1;row 1;", 25);
        fault("OPEN: a not in 5 (", "need (((((not 1)))));row 1;", 10);
        fault("OPEN: a - in 5 (", "need (((((-1)))));row 1;", 10);
        fault("OPEN: a ( in 5 -", "need -----(1);row 1;", 10);
        right("OPEN: a - between two in 5 ( opens nothing", "need (((((1-1)))));row 1;");
        fault("OPEN: a - behind a - between two in 5 (", "need (((((1--1)))));row 1;", 12);
        fault("OPEN: a ( behind a sign in 5 (", "need (((((1+(1))))));row 1;", 12);
    }

    private static void openTogether() {
        right("OPEN: not ( - ( - are 5", "need not(-(-1));row 1;");
        fault("OPEN: not ( - ( - and a (", "need not(-(-(1)));row 1;", 12);
        fault("OPEN: not ( - ( - and a -", "need not(-(--1));row 1;", 12);
        right("OPEN: ( not ( not ( are 5", "need (not(not(1)));row 1;");
        fault("OPEN: ( not ( not ( and a not", "need (not(not(not 1)));row 1;", 14);
        right("OPEN: 2 not and 3 (", "need not not (((1)));row 1;");
        fault("OPEN: 2 not, 3 ( and a -", "need not not (((-1)));row 1;", 16);
        fault("OPEN: not is open over < and behind it", "need not not not not not 1<(1);row 1;", 27);
        fault("OPEN: not is open over < and a - behind it", "need not not not not not 1<-1;row 1;", 27);
        fault("OPEN: not is open over + behind it", "need not not not not not 1+(1);row 1;", 27);
        fault("OPEN: not is open over * behind it", "need not not not not not 1*(1);row 1;", 27);
        fault("OPEN: ( is open till its )", "need (((((1) and (1))))) or 1;row (((((1+(1))))));", 41);
    }

    private static void closed() {
        right("OPEN: ( ends at its )", "need (1)+(1)+(1)+(1)+(1)+(1)+(((((1)))));row 1;");
        right("OPEN: not ends at and", "need not not not not not 1 and not not not not not 1;row 1;");
        right("OPEN: not ends at or", "need not not not not not 1 or (((((1)))));row 1;");
        right("OPEN: not ends at )", "need (not not not not 1)+(((((1)))));row 1;");
        right("OPEN: - ends behind its ONE", "need -----1-----1;row -1*-----1;");
        right("OPEN: - ends behind its ( )", "need -(-(1))-(((((1)))));row 1;");
        right("OPEN: - ends ahead of <", "need -----1<-----1;row -----1=(((((1)))));");
        right("OPEN: all end at ;", "need not not not not not 1;row not not not not not 1;");
        right("OPEN: inner ones end, outer ones stay", "need ((((-1)+(1))+(-1))+(((-1))));row 1;");
        fault("OPEN: inner ones end, outer ones stay: a sixth", "need ((((-1)+(1))+(-1))+((((-1)))));row 1;", 28);
    }

    private static void texts() {
        Check.test("10: TEXTS are numbered to 5", () -> {
            LastKeg x = new LastKeg();
            for (int t = 1; t < 6; t++) {
                Check.due("text", Check.read(x, "need " + t + ";row " + t + ";"), t);
                Check.due("TEXTS", x.boatTold(6), t + 1);
            }
        });
        Check.test("10: the seventh TEXT is FULL, THE TAPE stays", () -> {
            LastKeg x = State.FULL.make();
            Check.due("text", x.text(), -4);
            Check.due("bytes", x.boatTold(8), 160);
            Check.due("TEXTS", x.boatTold(6), 6);
            Check.due("no byte more", x.feed(32, 1), -4);
        });
        Check.test("10: FULL ahead of the FAULT of an empty TAPE", () -> {
            LastKeg x = new LastKeg();
            for (int t = 1; t < 6; t++) {
                Check.read(x, "need 1;row 1;");
            }
            Check.due("text", x.text(), -4);
            Check.due("a right one", Check.read(x, "need 1;row 1;"), -4);
            Check.due("its bytes stay", x.boatTold(8), 13);
        });
        Check.test("10: a FAULT takes no number", () -> {
            LastKeg x = new LastKeg();
            for (int t = 1; t < 6; t++) {
                Check.due("FAULT", Check.read(x, "need 1;row 1"), -112);
                Check.due("text", Check.read(x, "need 1;row 1;"), t);
            }
            Check.due("TEXTS", x.boatTold(6), 6);
        });
        Check.test("10: a FAULT leaves TEXTS and THE LAW as they are", () -> {
            LastKeg x = State.SOME.make();
            LastKeg y = State.SOME.make();
            Check.due("text", x.text(), -111);
            Check.due("bytes", x.boatTold(8), 0);
            // What the other reads has as its FAULT the same place, too.
            Check.due("text", Check.read(y, "%"), -111);
            Probe.alike(x, y);
        });
    }

    private static int bounded(String need, String row, int what) {
        LastKeg x = new LastKeg();
        x.man(50, 3);
        x.boat(1, 0);
        x.boat(3, 9999);
        x.rule(0, 7, 0);
        Check.due("the text", Check.read(x, "need " + need + ";row " + row + ";"), 1);
        x.force(1);
        return x.told(0, 1, 0, what);
    }

    private static void value(String e, int due) {
        Check.test("E: " + e + " is " + due, () -> Check.due(e, bounded("0", e, 3), due));
    }

    private static void values() {
        value("0", 0);
        value("99", 99);
        value("0099", 99);
        value("2+3*4", 14);
        value("2*3+4", 10);
        value("(2+3)*4", 20);
        value("20-3-4", 13);
        value("20-(3-4)", 21);
        value("2*3*4", 24);
        value("-3+5", 2);
        value("-(3-5)", 2);
        value("-3*-5", 15);
        value("--7", 7);
        value("7--7", 14);
        value("-0", 0);
        value("0*9999", 0);
        value("1<1+1", 1);
        value("1+1<1", 0);
        value("2*3=3+3", 1);
        value("0 or 1 and 0", 0);
        value("1 or 1 and 0", 1);
        value("(1 or 1) and 0", 0);
        value("not 0 or 1", 1);
        value("not (0 or 1)", 0);
        value("not 0 and 0", 0);
        value("not 1<0", 1);
        value("not 5=4", 1);
        value("(not 5)=4", 0);
        value("1<2 and 2<3", 1);
        value("1<2 or 3<2", 1);
        value("5*(1<2)+3*(2<1)", 5);
        String[] yes = {"not 0", "0 or 2", "2 or 0", "2 or 3", "2 and 3", "2<3", "3=3"};
        String[] no = {"not 2", "0 or 0", "0 and 2", "2 and 0", "0 and 0", "3<2", "2<2", "2=3"};
        for (String e : yes) {
            value("7+(" + e + ")", 8);
        }
        for (String e : no) {
            value("7+(" + e + ")", 7);
        }
    }

    private static void wrapping() {
        value("9999*9999*9999*9999+22", 99);
        value("4096*4096*256", 0);
        value("4096*4096*256+7", 7);
        value(LEAST + "<0", 1);
        value("0<" + MOST, 1);
        value(MOST + "+1=" + LEAST, 1);
        value(MOST + "+1<0", 1);
        value(LEAST + "-1=" + MOST, 1);
        value("0<" + LEAST + "-1", 1);
        value("-(" + LEAST + ")=" + LEAST, 1);
        value("-(" + LEAST + ")<0", 1);
        value("-" + MOST + "-1=" + LEAST, 1);
        value(LEAST + "*2", 0);
        value(LEAST + "*3=" + LEAST, 1);
        value(LEAST + "+" + LEAST, 0);
        value(LEAST + "-" + LEAST, 0);
        value("0-" + LEAST + "=" + LEAST, 1);
        value(MOST + "*" + MOST, 1);
        value(MOST + "+" + MOST + "+9", 7);
        value(LEAST + "<" + MOST, 1);
        value(MOST + "<" + LEAST, 0);
        value("0<" + LEAST, 0);
        value(MOST + "<0", 0);
        value("1<" + LEAST + "+2", 0);
        value(LEAST + "*-1=" + LEAST, 1);
        value(MOST + "<" + MOST, 0);
        value(LEAST + "=" + MOST, 0);
    }

    private static void truth() {
        for (String is : new String[] {"1", "2", "-1", "9999", "-9999", LEAST, MOST, "4096*4096"}) {
            value("not (" + is + ")", 0);
            value("(" + is + ") and 3", 1);
            value("3 and (" + is + ")", 1);
            value("(" + is + ") or 0", 1);
            value("0 or (" + is + ")", 1);
        }
        for (String no : new String[] {"0", "-0", "1-1", "4096*4096*256", LEAST + "+" + LEAST}) {
            value("not (" + no + ")", 1);
            value("(" + no + ") and 3", 0);
            value("3 and (" + no + ")", 0);
            value("(" + no + ") or 0", 0);
            value("5 or (" + no + ")", 1);
        }
    }

    private static void bounds() {
        String[] e = {"0-1", "0", "1", "19", "20", "21", "98", "99", "100", LEAST, MOST, "-9999", "9999*9999"};
        int[] needs = {0, 0, 1, 19, 20, 20, 20, 20, 20, 0, 20, 0, 20};
        int[] rows = {0, 0, 1, 19, 20, 21, 98, 99, 99, 0, 99, 0, 99};
        for (int i = 0; i < e.length; i++) {
            String said = e[i];
            int need = needs[i];
            int row = rows[i];
            Check.test("need: " + said + " is " + need, () -> Check.due("STORE", bounded(said, "0", 0), 50 - need));
            Check.test("row: " + said + " is " + row, () -> Check.due("MILES", bounded("0", said, 3), row));
        }
        Check.test("need, row: each man's is bounded, not all together", () -> {
            LastKeg x = Boats.still(0, 50, 0, 50, 9);
            Check.due("the text", Check.read(x, "need 25;row 98+100*(0<rows)-99*(rows=0);"), 2);
            x.force(2);
            x.rule(0, 0, 0);
            Check.due("MILES", x.told(0, 1, 0, 3), 99);
            Check.due("STORE of 0", x.told(0, 1, 0, 0), 30);
            Check.due("STORE of 1", x.told(0, 1, 1, 0), 30);
        });
    }

    /** What a NAME says of man 1, who alone has ROWS, by the MILES that are rowed. */
    private static int fact(String name, int store, int rows, int more, int ration, int d) {
        LastKeg x = Boats.still(ration, 99, 0, store, rows);
        Check.due("the text", Check.read(x, "need 0;row (0<rows)*(" + name + ");"), 2);
        x.force(2);
        x.rule(0, more, 0);
        return x.told(0, d + 1, 0, 3) - x.told(0, d, 0, 3);
    }

    private static void facts() {
        Check.test("NAMES: store 1", () -> Check.due("store", fact("store", 1, 1, 0, 0, 0), 1));
        Check.test("NAMES: store 99", () -> Check.due("store", fact("store", 99, 1, 0, 0, 0), 99));
        Check.test("NAMES: store as the day begins, without his share", () -> {
            Check.due("on day 0", fact("store", 40, 1, 0, 20, 0), 40);
            Check.due("on day 1", fact("store", 40, 1, 0, 20, 1), 50);
        });
        Check.test("NAMES: rows 1 and 9", () -> {
            Check.due("rows", fact("rows", 50, 1, 0, 0, 0), 1);
            Check.due("rows", fact("rows", 50, 9, 0, 0, 0), 9);
        });
        Check.test("NAMES: rows 0", () -> Check.due("MILES", fact("9", 50, 0, 0, 0, 0), 0));
        for (int d : new int[] {0, 1, 11}) {
            Check.test("NAMES: day " + d, () -> Check.due("day", fact("day", 50, 1, 0, 0, d), d));
        }
        Check.test("NAMES: share 0", () -> Check.due("share", fact("share", 50, 1, 0, 1, 0), 0));
        Check.test("NAMES: share 49", () -> Check.due("share", fact("share", 50, 1, 0, 99, 0), 49));
        Check.test("NAMES: more 0", () -> Check.due("more", fact("more", 50, 1, 0, 0, 0), 0));
        Check.test("NAMES: more 99", () -> Check.due("more", fact("more", 50, 1, 99, 0, 0), 99));
        for (int kind = 0; kind < 6; kind++) {
            int of = kind;
            Check.test("NAMES: more of KIND " + kind, () -> {
                LastKeg x = Boats.law(Boats.still(0, 50, 1), "need 0;row more;");
                Check.sheet(x, 0, 7);
                x.rule(0, 1, 0);
                Check.due("rule", x.rule(of, 60 + of, 0), 1);
                Check.due("MILES", x.told(1, 1, 0, 3), 60 + of);
            });
        }
        Check.test("NAMES: alive 2", () -> Check.due("alive", fact("alive", 50, 1, 0, 0, 0), 2));
    }

    private static LastKeg alive(int men) {
        LastKeg x = Boats.still(0);
        for (int m = 0; m < men; m++) {
            x.man(50, 0);
        }
        Check.read(x, "need 0;row alive;");
        x.force(2);
        x.rule(0, 0, 0);
        return x;
    }

    private static void lesserFacts() {
        Check.test("NAMES: alive 1", () -> Check.due("MILES", alive(1).told(0, 1, 0, 3), 1));
        Check.test("NAMES: alive 8", () -> Check.due("MILES", alive(8).told(0, 1, 0, 3), 64));
        Check.test("NAMES: alive is without those who died", () -> {
            LastKeg x = alive(2);
            x.man(3, 0);
            Check.read(x, "need 3*(store=3);row alive;");
            x.force(3);
            Check.due("on day 0", x.told(0, 1, 0, 3), 9);
            Check.due("on day 1", x.told(0, 2, 0, 3), 13);
        });
        Check.test("NAMES: share is what he got, not what was due to him", () -> {
            LastKeg x = Boats.still(20, 50, 9);
            x.boat(1, 7);
            Check.read(x, "need share;row share;");
            x.force(2);
            x.rule(0, 0, 0);
            Check.due("MILES", x.told(0, 1, 0, 3), 7);
            Check.due("STORE", x.told(0, 1, 0, 0), 50);
        });
    }

    private static void force() {
        Range.answered("11: a TEXT is refused, one stands", LastKeg::new, (x, v) -> x.force(v), -2, LOW, -1, 1, 5, 6, HIGH);
        Range.answered("11: a TEXT is refused, six stand", State.FULL::make, (x, v) -> x.force(v), -2, LOW, -1, 6, 7, HIGH);
        Range.answered("11: a TEXT is taken, one stands", LastKeg::new, (x, v) -> x.force(v), 0, 0);
        Range.answered("11: a TEXT is taken, six stand", State.FULL::make, (x, v) -> x.force(v), 5, 0, 1, 4, 5);
        Check.test("11: THE LAW is the TEXT of that number", () -> {
            LastKeg x = State.FULL.make();
            int was = 5;
            for (int t : new int[] {0, 5, 1, 4, 2, 3, 3}) {
                Check.due("force " + t, x.force(t), was);
                Check.due("THE LAW", x.boatTold(7), t);
                Check.due("MILES", x.told(0, 1, 0, 3), t == 0 ? 4 * 28 : 8 * t);
                was = t;
            }
        });
        Check.test("11: a TEXT that comes is not THE LAW yet", () -> {
            LastKeg x = new LastKeg();
            Check.read(x, "need 1;row 1;");
            Check.due("THE LAW", x.boatTold(7), 0);
            Check.due("force", x.force(1), 0);
        });
    }
}
