/** Each sentence of 'Terms' on the text that names a bound: its bytes, blanks, words, numbers, signs and names. */
public final class TextBoundsTest {
    private static final Check CHECK = new Check("TextBoundsTest");
    private static final int BLANK = 0x20202020;
    private static final String CATALOG = "dimension a(x,y);measure m;member a(1,10),(2,20);";
    private static final String LETTERS = "abcdefghijklmnopqrstuvwxyzABCDEFGHIJKLMNOPQRSTUVWXYZ";
    private static final String DIGITS = "0123456789";
    private static final String SIGNS = "(),;.*=<>";
    private static final String BLANKS = "\t\n\r ";

    public static void main(String[] args) {
        mostBytes();
        twentyBytes();
        trimmed();
        usedUp();
        eachByteAtTheBeginning();
        eachByteInAWord();
        eachByteInANumber();
        longestSigns();
        numbersThatAreInts();
        minusSigns();
        namesOfForty();
        reservedWords();
        placeOfTheEnd();
        CHECK.end();
    }

    private static CubeStore open() {
        return Check.opened(16, CATALOG);
    }

    private static void feedBlanks(CubeStore s, int times) {
        for (int i = 0; i < times; i++) {
            s.feed(BLANK, BLANK, BLANK, BLANK, BLANK);
        }
    }

    /** "THE TEXT is fed, 65536 bytes at most"; "Illegal state: also if there would be more than 65536." */
    private static void mostBytes() {
        for (int length = 65510; length <= 65520; length++) {
            CubeStore s = new CubeStore(16);
            feedBlanks(s, 3276);
            CHECK.due("trimmed", s.trim(65520 - length), length);
            if (length + 20 > 65536) {
                CHECK.state("feed behind " + length, () -> s.feed(1, 2, 3, 4, 5));
                CHECK.due("a refused feed changes nothing", s.count(6), length);
                CHECK.due("blanks alone are run", s.run(), 0);
                CHECK.due("they have no fault", s.fault(0), 0);
            } else {
                CHECK.due("feed behind " + length, s.feed(0x6d656173, 0x75726520, 0x6d202020, 0x20202020, 0x2020203b), length + 20);
                CHECK.due("what stands in the last bytes is run", s.run(), 1);
            }
        }
    }

    /** "Twenty bytes come behind the text, each of the five with its highest byte first: how many it has." */
    private static void twentyBytes() {
        CubeStore s = new CubeStore(16);
        CHECK.due("20", s.feed(0x6d656173, 0x75726520, 0x61626364, 0x65666768, 0x696a6b6c), 20);
        CHECK.due("40", s.feed(0x6d6e6f70, 0x71727374, 0x75767778, 0x797a5f30, 0x3b23ff80), 40);
        CHECK.due("one statement", s.run(), 1);
        CHECK.due("then a sign that is none", s.fault(0), 1);
        CHECK.due("it stands at 37", s.fault(1), 37);
        CHECK.fault(s, "measure abcdefghijklmnopqrstuvwxyz_0;", 0, 6, 8);
        s.feed(-1, -1, -1, -1, -1);
        s.run();
        CHECK.due("bytes above 127", s.fault(0) * 100 + s.fault(1), 100);
    }

    /** "The last n bytes of the text go"; "n is not 0 .. 20, or more than there are". */
    private static void trimmed() {
        CubeStore s = new CubeStore(16);
        for (int length = 0; length <= 25; length++) {
            for (int n = -1; n <= 22; n++) {
                Check.tell(s, "x".repeat(length));
                int trimmed = n;
                if (n < 0 || n > 20 || n > length) {
                    CHECK.argument("trim(" + n + ") of " + length, () -> s.trim(trimmed));
                    CHECK.due("it changes nothing", s.count(6), length);
                } else {
                    CHECK.due("trim(" + n + ") of " + length, s.trim(n), length - n);
                    CHECK.due("bytes", s.count(6), length - n);
                }
                s.run();
            }
        }
    }

    /** "and run as a whole: then it is used up", with a fault or without. */
    private static void usedUp() {
        CubeStore s = new CubeStore(16);
        CHECK.due("an empty text", s.run(), 0);
        CHECK.fine(s, "measure m;", 1);
        CHECK.due("used up", s.count(6), 0);
        CHECK.fine(s, "", 0);
        CHECK.fault(s, "?measure n;", 0, 1, 0);
        CHECK.due("used up with a fault, too", s.count(6), 0);
        CHECK.fine(s, "measure n;", 1);
        Check.tell(s, "measure ");
        Check.tell(s, "kk;");
        s.trim(2);
        Check.tell(s, ";");
        CHECK.due("what was fed and left stands behind one another", s.run(), 1);
        CHECK.fault(s, "measure k;", 0, 6, 8);
    }

    /** "BLANKS are the bytes 9, 10, 13, 32"; "SIGN: a byte that begins none of these". */
    private static void eachByteAtTheBeginning() {
        CubeStore s = open();
        for (int b = 0; b < 256; b++) {
            char c = (char) b;
            boolean isBlank = BLANKS.indexOf(c) >= 0;
            boolean begins = (LETTERS + DIGITS + SIGNS).indexOf(c) >= 0;
            CHECK.fault(s, "" + c, 0, isBlank ? 0 : begins ? 4 : 1, isBlank ? -1 : 0);
            if (c == ';') {
                CHECK.fine(s, "select count(*) ;", 1);
            } else {
                boolean goesOn = isBlank || c == ',';
                CHECK.fault(s, "select count(*) " + c, 0, goesOn ? 3 : begins ? 4 : 1, goesOn ? 17 : 16);
            }
        }
    }

    /** "WORDS are a letter and all letters, digits and _ that follow." */
    private static void eachByteInAWord() {
        for (int b = 0; b < 256; b++) {
            char c = (char) b;
            String text = "measure q" + c + "z;";
            CubeStore s = new CubeStore(16);
            if ((LETTERS + DIGITS + "_").indexOf(c) >= 0) {
                CHECK.fine(s, text, 1);
                CHECK.fault(s, text, 0, 6, 8);
                CHECK.fine(s, "measure q;measure z;", 2);
            } else if (c == ';') {
                CHECK.fault(s, text, 1, 4, 10);
            } else {
                boolean isBlank = BLANKS.indexOf(c) >= 0;
                CHECK.fault(s, text, 0, isBlank || SIGNS.indexOf(c) >= 0 ? 4 : 1, isBlank ? 10 : 9);
            }
        }
    }

    /** "NUMBERS are digits, as many as follow one another, with a - before them if it stands directly there." */
    private static void eachByteInANumber() {
        CubeStore s = open();
        String head = "select count(*) where a.x=1";
        int place = head.length();
        for (int b = 0; b < 256; b++) {
            char c = (char) b;
            String text = head + c + "2;";
            if (DIGITS.indexOf(c) >= 0) {
                CHECK.fine(s, text, 1);
            } else if (c == ';') {
                CHECK.fault(s, text, 1, 4, place + 1);
            } else {
                boolean isBlank = BLANKS.indexOf(c) >= 0;
                boolean begins = c == '-' || (LETTERS + SIGNS).indexOf(c) >= 0;
                CHECK.fault(s, text, 0, isBlank || begins ? 4 : 1, isBlank ? place + 1 : place);
            }
        }
    }

    /** "other SIGNS are ( ) , ; . * = < > <= >= <> (the longest one counts ..)". */
    private static void longestSigns() {
        CubeStore s = open();
        String head = "select count(*) where a.x";
        int place = head.length();
        for (char first : SIGNS.toCharArray()) {
            for (char second : SIGNS.toCharArray()) {
                String both = "" + first + second;
                boolean isOne = both.equals("<=") || both.equals(">=") || both.equals("<>");
                if (isOne) {
                    CHECK.fine(s, head + both + "1;", 1);
                    CHECK.fine(s, head + both + " 1;", 1);
                    CHECK.fault(s, head + first + " " + second + "1;", 0, 4, place + 2);
                } else {
                    boolean compares = "=<>".indexOf(first) >= 0;
                    CHECK.fault(s, head + both + "1;", 0, 4, compares ? place + 1 : place);
                }
                for (char third : "=<>".toCharArray()) {
                    if (isOne) {
                        CHECK.fault(s, head + both + third + "1;", 0, 4, place + 2);
                    }
                }
            }
        }
        Check.tell(s, head + "<=");
        s.trim(1);
        s.run();
        CHECK.due("what was trimmed is no part of a sign", s.fault(0) * 1000 + s.fault(1), 3000 + place + 1);
    }

    /** "NUMBER: a number that is no int." */
    private static void numbersThatAreInts() {
        String[] ints = {"0", "-0", "00", "7", "-7", "2147483646", "2147483647", "-2147483647", "-2147483648",
            "0002147483647", "-0002147483648", "0".repeat(3000) + "12"};
        String[] none = {"2147483648", "-2147483649", "2147483657", "-2147483658", "4294967295", "4294967296", "4294967297",
            "-4294967296", "9223372036854775807", "9223372036854775808", "18446744073709551616", "18446744073709551617",
            "-18446744073709551615", "36893488147419103233", "1" + "0".repeat(3000), "9".repeat(3000), "0".repeat(3000) + "2147483648"};
        String head = "select count(*) where a.x = ";
        for (String number : ints) {
            CHECK.fine(open(), head + number + ";", 1);
            CHECK.fault(open(), head + number, 0, 3, head.length() + number.length());
            CHECK.fine(new CubeStore(16), "dimension b(z);member b(" + number + ");", 2);
            CHECK.fault(open(), number, 0, 4, 0);
        }
        for (String number : none) {
            CHECK.fault(open(), head + number + ";", 0, 2, head.length());
            CHECK.fault(open(), head + number, 0, 2, head.length());
            CHECK.fault(new CubeStore(16), "dimension b(z);member b(" + number + ");", 1, 2, 24);
            CHECK.fault(open(), number, 0, 2, 0);
        }
        CubeStore s = new CubeStore(16);
        Check.run(s, "dimension b(z);measure m;member b(-2147483648),(2147483647),(-0),(007);");
        s.open();
        CHECK.due("the least int", s.key(0, Integer.MIN_VALUE), true);
        CHECK.due("the greatest int", s.key(0, Integer.MAX_VALUE), true);
        CHECK.due("zero", s.key(0, 0), true);
        CHECK.due("seven", s.key(0, 7), true);
        CHECK.due("none beside the least", s.key(0, Integer.MIN_VALUE + 1), false);
        CHECK.due("none beside the greatest", s.key(0, Integer.MAX_VALUE - 1), false);
    }

    /** "a - without a digit behind it is none". */
    private static void minusSigns() {
        CubeStore s = open();
        String head = "select count(*) where a.x =";
        int place = head.length();
        CHECK.fine(s, head + "-1;", 1);
        CHECK.fault(s, head + "-;", 0, 1, place);
        CHECK.fault(s, head + "-", 0, 1, place);
        CHECK.fault(s, head + "- 1;", 0, 1, place);
        CHECK.fault(s, head + "--1;", 0, 1, place);
        CHECK.fault(s, head + "-x;", 0, 1, place);
        CHECK.fault(s, head + "1-;", 0, 1, place + 1);
        CHECK.fault(s, head + "1-1;", 0, 4, place + 1);
        CHECK.fault(s, "select a-1", 0, 4, 8);
        CHECK.fault(s, "select a-", 0, 1, 8);
        Check.tell(s, head + "-1");
        s.trim(1);
        s.run();
        CHECK.due("a digit that was trimmed is none behind it", s.fault(0) * 1000 + s.fault(1), 1000 + place);
    }

    /** "NAMES are words of at most 40 letters": of a dimension, a level, a measure, new or there. */
    private static void namesOfForty() {
        String most = "A_3456789_123456789_123456789_123456789z";
        CHECK.due("letters", most.length(), 40);
        for (String name : new String[] {"q", most.substring(0, 39), most}) {
            CubeStore s = new CubeStore(16);
            CHECK.fine(s, "dimension " + name + "(" + name + ");measure m;member " + name + "(1);", 3);
            s.open();
            CHECK.fine(s, "select " + name + "." + name + ", grouping(" + name + "." + name + ") where " + name + "." + name
                + "=1 group by " + name + "." + name + ";", 1);
            CubeStore t = new CubeStore(16);
            CHECK.fine(t, "dimension d(l);measure " + name + ";member d(1);", 3);
            t.open();
            CHECK.fine(t, "select sum(" + name + "), min(" + name + "), max(" + name + ");", 1);
        }
        String over = most + "q";
        CubeStore s = new CubeStore(16);
        CHECK.fault(s, "dimension " + over + "(x);", 0, 5, 10);
        CHECK.fault(s, "measure " + over + ";", 0, 5, 8);
        CHECK.fault(s, "dimension d(" + over + ");", 0, 5, 12);
        CHECK.fault(s, "dimension d(x," + over + ");", 0, 5, 14);
        CHECK.fine(s, "dimension " + most + "(" + most + ");measure m;", 2);
        CHECK.fault(s, "member " + over + "(1);", 0, 5, 7);
        CHECK.fault(s, "member " + most.substring(0, 39) + "(1);", 0, 5, 7);
        CHECK.fine(s, "member " + most + "(1);", 1);
        // Names that differ in the last letter alone, or in its case, or are the beginning of another one.
        CHECK.fine(s, "measure " + most.substring(0, 39) + "Z;measure " + most.substring(0, 39) + ";measure M;measure mm;", 4);
        s.open();
        CHECK.fault(s, "select " + over + ".x;", 0, 5, 7);
        CHECK.fault(s, "select sum(" + over + ");", 0, 5, 11);
        CHECK.fault(s, "select " + most + "." + over + ";", 0, 5, 48);
        CHECK.fault(s, "select " + most + "." + most.substring(0, 39) + ";", 0, 5, 48);
        CHECK.fault(s, "select count(*) group by " + over + ".x;", 0, 5, 25);
        CHECK.fault(s, "select count(*) where " + over + ".x=1;", 0, 5, 22);
        CHECK.fault(s, "select sum(" + "z".repeat(60000) + ");", 0, 5, 11);
    }

    /** "that are not RESERVED": nineteen words, just as they are written. */
    private static void reservedWords() {
        String[] words = {"dimension", "measure", "member", "select", "where", "group", "by", "rollup", "cube", "grouping",
            "sum", "count", "min", "max", "and", "or", "not", "between", "in"};
        CubeStore s = new CubeStore(16);
        for (String word : words) {
            CHECK.fault(s, "dimension " + word + "(x);", 0, 5, 10);
            CHECK.fault(s, "dimension d(" + word + ");", 0, 5, 12);
            CHECK.fault(s, "measure " + word + ";", 0, 5, 8);
            CHECK.fault(s, "member " + word + "(1);", 0, 5, 7);
        }
        for (int i = 0; i < words.length; i++) {
            String upper = Character.toUpperCase(words[i].charAt(0)) + words[i].substring(1);
            CubeStore t = new CubeStore(16);
            CHECK.fine(t, "dimension " + upper + "(" + words[i] + "_," + words[i] + "0," + words[i] + "s);", 1);
            CHECK.fine(t, "measure " + words[i] + words[i] + ";measure x" + words[i] + ";", 2);
            if (words[i].length() > 2) {
                CHECK.fine(t, "measure " + words[i].substring(0, words[i].length() - 1) + ";", 1);
            }
        }
        CHECK.fine(new CubeStore(16), "measure b;measure i;measure o;measure n;measure all;measure none;measure as;", 7);
    }

    /** "Its PLACE is the byte (from 0) where the word, number or sign begins; behind all others that of the text's end." */
    private static void placeOfTheEnd() {
        CubeStore s = open();
        CHECK.fault(s, "select", 0, 3, 6);
        CHECK.fault(s, "select ", 0, 3, 7);
        CHECK.fault(s, "select \n\r\t ", 0, 3, 11);
        CHECK.fault(s, "select count(*);select count(*);  select count(*)", 2, 3, 49);
        CHECK.fine(s, "select count(*);", 1);
        CHECK.fine(s, "select count(*);   ", 1);
        CHECK.fault(s, "select count(*); ;", 1, 4, 17);
        CHECK.fault(s, "\n\n  ?", 0, 1, 4);
        CHECK.fault(s, "select count(*)  99999999999", 0, 2, 17);
        CHECK.fault(s, "select   where", 0, 5, 9);
    }
}
