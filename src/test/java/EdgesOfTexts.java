/** The boundaries of the tape, of texts and of what they reckon (promises 2 to 6, and their "Terms"). */
final class EdgesOfTexts {
    private static final String REST = ";fee 1;wage 1;";
    private static final String SOUND = "worth 1;fee 1;wage 1;";
    /** 2147483647, the greatest int. */
    private static final String GREATEST = "9999*9999*21+9999*4790+8416";

    private final Edges e;

    EdgesOfTexts(Edges e) {
        this.e = e;
    }

    void run() {
        tapeSize();
        words();
        numbers();
        signs();
        blanks();
        parts();
        joints();
        ones();
        ints();
        truth();
        faults();
        open();
        texts();
        firstText();
        bounds();
        names();
        count();
        feed();
        text();
        force();
        asks();
    }

    // ---- what a text answers

    private void stands(String text) {
        e.town("");
        e.tape(text);
        e.is("text()", 1);
        e.is("count(5)", 0);
        e.is("count(3)", 2);
    }

    private void fault(String text, int place) {
        e.town("");
        e.tape(text);
        e.is("text()", -100 - place);
        e.is("count(5)", 0);
        e.is("count(3)", 1);
    }

    /** What an E answers as worth (0 .. 99). */
    private void value(String expression, int want) {
        e.town("");
        e.law("worth " + expression + REST);
        e.is("asks(0, 0, 0, 0)", want);
    }

    private static String blanks(int n) {
        return " ".repeat(n);
    }

    // ---- what a text is read from

    private void tapeSize() {
        e.terms(4, "A TEXT is read from THE TAPE (160 bytes at most).");
        stands(SOUND + blanks(159 - SOUND.length()));
        stands(SOUND + blanks(160 - SOUND.length()));
        stands(blanks(160 - SOUND.length()) + SOUND);
        stands(blanks(160 - SOUND.length()) + SOUND + "$");
        fault(SOUND + blanks(158 - SOUND.length()) + "$", 158);
        fault(SOUND + blanks(159 - SOUND.length()) + "$", 159);
        e.town("");
        e.tape(blanks(159));
        e.is("feed(1, 36, 0, 0, 0, 0)", 160);
        e.is("feed(1, 36, 0, 0, 0, 0)", -4);
        e.is("text()", -259);
        stands("worth 0" + "+1".repeat(69) + REST);
        stands("worth 0" + "+1".repeat(69) + REST + " ");
    }

    private void words() {
        e.terms(4, "TOKENS, each as long as can be");
        fault("worthworth" + REST, 0);
        fault("worth notnot 1" + REST, 6);
        fault("worth toldmany" + REST, 6);
        fault("worth 11111" + REST, 6);
        stands("worth 1111" + REST);
        stands("worth not not 1" + REST);
        stands("worth 1+1" + REST);
        stands("worth--1" + REST);
        stands("worth((1))" + REST);
        e.terms(4, "WORDS (as many letters a .. z as stand there)");
        fault("worth`" + REST, 5);
        fault("wortha 1" + REST, 0);
        fault("worthz 1" + REST, 0);
        fault("worth{" + REST, 5);
        fault("worthA" + REST, 5);
        fault("worthZ" + REST, 5);
        fault("worth@" + REST, 5);
        fault("worth[" + REST, 5);
        fault("wort h 1" + REST, 0);
        fault("worth toldz" + REST, 6);
        stands("worth told" + REST);
        fault("worth tol" + REST, 6);
        fault("worthtol" + REST, 0);
        stands("worth1" + REST);
        stands("worth 1or 1" + REST);
        stands("worth(told)or(many)and not(1)" + REST);
        fault("worth 1 orr 1" + REST, 8);
    }

    private void numbers() {
        e.terms(4, "NUMBERS (as many digits as stand there; more than 4 are too long)");
        value("999=9*111", 1);
        value("9999=9*1111", 1);
        value("0009", 9);
        value("0000", 0);
        value("0", 0);
        value("90", 90);
        fault("worth 10000" + REST, 6);
        fault("worth 99999" + REST, 6);
        fault("worth 00000" + REST, 6);
        fault("worth 00001" + REST, 6);
        fault("worth 123456789012345" + REST, 6);
        fault("worth 1+12345" + REST, 8);
        fault("worth 1/" + REST, 7);
        fault("worth 1:" + REST, 7);
        fault("worth /" + REST, 6);
        fault("worth :" + REST, 6);
        fault("worth 1 2" + REST, 8);
        fault("worth 1234 5" + REST, 11);
    }

    private void signs() {
        e.terms(4, "SIGNS ( ) ; + - * < =");
        stands("worth (1)+1-1*1" + REST);
        stands("worth 1<1" + REST);
        stands("worth 1=1" + REST);
        for (char c : new char[] {33, 34, 39, 44, 46, 47, 58, 62, 63, 94, 124, 126, 127, 128, 254, 255}) {
            fault("worth 1 " + c + " 1" + REST, 8);
            fault("worth " + c + "1" + REST, 6);
        }
        fault("worth 1 << 1" + REST, 9);
        fault("worth 1 <= 1" + REST, 9);
        fault("worth 1 ** 1" + REST, 9);
    }

    private void blanks() {
        e.terms(4, "blanks (32, 10) may stand between.");
        stands(" \n worth\n1 ;\nfee 1; wage\n\n1 ;\n ");
        for (char c : new char[] {0, 8, 9, 11, 12, 13, 31, 33, 160}) {
            fault("worth 1" + c + REST, 7);
            fault(c + SOUND, 0);
            fault(SOUND + c, SOUND.length());
        }
        fault("wor th 1" + REST, 0);
        fault("worth 1\n2" + REST, 8);
        value("12\n+\n1", 13);
    }

    private void parts() {
        e.terms(4, "TEXT: worth E ; fee E ; wage E ;");
        stands(SOUND);
        fault("worth 1;fee 1;wage 1", 20);
        fault("worth 1;fee 1;wage ;", 19);
        fault("worth 1;fee 1;", 14);
        fault("worth 1;wage 1;fee 1;", 8);
        fault("worth 1;fee 1;fee 1;", 14);
        fault("worth 1;fee 1;wage 1;;", 21);
        fault("worth 1;fee 1;wage 1;worth 1;", 21);
        fault("worth 1;fee 1;wage 1;1", 21);
        fault("worth 1 fee 1;wage 1;", 8);
        fault("worth;fee 1;wage 1;", 5);
        fault("worth 1;;fee 1;wage 1;", 8);
        fault(";" + SOUND, 0);
    }

    private void joints() {
        e.terms(4, "E: AND { or AND }.");
        stands("worth 1" + REST);
        stands("worth 1 or 1" + REST);
        stands("worth 1 or 1 or 1" + REST);
        fault("worth or 1" + REST, 6);
        fault("worth 1 or" + REST, 10);
        fault("worth 1 or or 1" + REST, 11);
        e.terms(4, "AND: NOT { and NOT }.");
        stands("worth 1 and 1" + REST);
        stands("worth 1 and 1 and not 1" + REST);
        fault("worth and 1" + REST, 6);
        fault("worth 1 and" + REST, 11);
        fault("worth 1 and and 1" + REST, 12);
        fault("worth 1 and or 1" + REST, 12);
        e.terms(4, "NOT: not NOT, or SUM, perhaps < or = and a SUM.");
        stands("worth not 1" + REST);
        stands("worth not not 1" + REST);
        stands("worth not 1 < 2" + REST);
        stands("worth 1 = 2" + REST);
        fault("worth not" + REST, 9);
        fault("worth < 1" + REST, 6);
        fault("worth 1 <" + REST, 9);
        fault("worth 1 < 2 < 3" + REST, 12);
        fault("worth 1 < 2 = 3" + REST, 12);
        fault("worth 1 = 2 = 3" + REST, 12);
        fault("worth 1 = not 2" + REST, 10);
        fault("worth 1 not 2" + REST, 8);
        e.terms(4, "SUM: TERM { + or - TERM }.");
        stands("worth 1 + 1 - 1 + 1" + REST);
        fault("worth + 1" + REST, 6);
        fault("worth 1 +" + REST, 9);
        fault("worth 1 + + 1" + REST, 10);
        stands("worth 1 + - 1" + REST);
        fault("worth 1 + not 1" + REST, 10);
        e.terms(4, "TERM: ONE { * ONE }.");
        stands("worth 1 * 1 * 1" + REST);
        fault("worth * 1" + REST, 6);
        fault("worth 1 *" + REST, 9);
        fault("worth 1 * * 1" + REST, 10);
    }

    private void ones() {
        e.terms(4, "ONE: a NUMBER, a NAME, - ONE, ( E ).");
        stands("worth -told" + REST);
        stands("worth (1 or 1)*(not 1)" + REST);
        fault("worth" + REST, 5);
        fault("worth ()" + REST, 7);
        fault("worth (1" + REST, 8);
        fault("worth 1)" + REST, 7);
        fault("worth (1))" + REST, 9);
        fault("worth -" + REST, 7);
        fault("worth - not 1" + REST, 8);
        fault("worth 1 (1)" + REST, 8);
        fault("worth 1 told" + REST, 8);
        e.terms(4, "NAMES: told many more year number price.");
        stands("worth told+many+more+year+number+price" + REST);
        for (String name : new String[] {"worth", "fee", "wage", "or", "and"}) {
            fault("worth " + name + REST, 6);
        }
        fault("worth prices" + REST, 6);
        fault("worth numbe" + REST, 6);
    }

    // ---- what an E is

    private void ints() {
        e.terms(6, "An E is an int (32 bits, wrapping)");
        value("0<" + GREATEST, 1);
        value("0<" + GREATEST + "-1", 1);
        value("0<" + GREATEST + "+1", 0);
        value(GREATEST + "+1=-(" + GREATEST + ")-1", 1);
        value("0-(" + GREATEST + ")<0", 1);
        value("0-(" + GREATEST + ")-1<0", 1);
        value("0-(" + GREATEST + ")-2<0", 0);
        value("-(" + GREATEST + "+1)<0", 1);
        value("-(" + GREATEST + "+1)=" + GREATEST + "+1", 1);
        value("0<256*256*256*127", 1);
        value("0<256*256*256*128", 0);
        value("256*256*256*255", 0);
        value("256*256*256*255=-256*256*256", 1);
        value("256*256*256*256+7", 7);
        value("1<2", 1);
        value("-(" + GREATEST + ")-1<" + GREATEST, 1);
        value(GREATEST + "<-(" + GREATEST + ")-1", 0);
    }

    private void truth() {
        e.terms(6, "of or, and, not, <, = 1 or 0 (what is not 0 is true)");
        int[] sides = {-2, -1, 0, 1, 2};
        for (int a : sides) {
            value("5+(not (" + a + "))", a == 0 ? 6 : 5);
            for (int b : sides) {
                value("5+((" + a + ") or (" + b + "))", a != 0 || b != 0 ? 6 : 5);
                value("5+((" + a + ") and (" + b + "))", a != 0 && b != 0 ? 6 : 5);
                value("5+((" + a + ") < (" + b + "))", a < b ? 6 : 5);
                value("5+((" + a + ") = (" + b + "))", a == b ? 6 : 5);
            }
        }
        value("not 256*256*256*256", 1);
        value("256*256*256*128 and 1", 1);
    }

    private void faults() {
        e.terms(4, "FAULT: the place of the first byte of the first TOKEN that can't stand there");
        fault("fee 1;", 0);
        fault(" fee 1;", 1);
        fault("worth 1  fee 1", 9);
        fault("worth ;$", 6);
        fault("worth 12345 $", 6);
        fault("worth 1 2 12345", 8);
        e.terms(4, "(the text's size, if it ends too early)");
        fault("", 0);
        fault(" ", 1);
        fault("\n\n", 2);
        fault("worth", 5);
        fault("worth 1", 7);
        fault("worth 1 ", 8);
        fault("worth (", 7);
        fault("worth not", 9);
        fault("worth 1;fee 1;wage 1", 20);
        fault("worth 1;fee 1;wage 1\n", 21);
        stands("worth 1;fee 1;wage 1;");
        fault(blanks(159), 159);
        fault(blanks(160), 160);
        e.terms(4, "also of a byte that begins none, of a WORD that is neither KEY nor NAME, a NUMBER that is too long");
        fault("$", 0);
        fault("worth $", 6);
        fault("worth 1 $", 8);
        fault("x", 0);
        fault("worth x", 6);
        fault("worth 1 x", 8);
        fault("12345", 0);
        fault("worth 12345", 6);
        fault("worth 1 12345", 8);
        for (String before : new String[] {"worth - ", "worth not ", "worth (", "worth 1 or ", "worth 1 and ", "worth 1 * ", "worth 1 + "}) {
            fault(before + "x 1" + REST, before.length());
            fault(before + "12345" + REST, before.length());
            fault(before + "$ 1" + REST, before.length());
        }
        fault("xorth 1" + REST, 0);
        fault("worth xold" + REST, 6);
        fault("worth pricd" + REST, 6);
        fault("worth 1;ffe 1;wage 1;", 8);
        fault(SOUND + "x", 21);
        fault(SOUND + "12345", 21);
        fault(SOUND + "$", 21);
        fault("worth 1;$", 8);
    }

    private void open() {
        e.terms(4, "a ( , a not, a - ahead of a ONE while 5 of these are open");
        stands("worth ((((1))))" + REST);
        stands("worth (((((1)))))" + REST);
        fault("worth ((((((1))))))" + REST, 11);
        stands("worth ----1" + REST);
        stands("worth -----1" + REST);
        fault("worth ------1" + REST, 11);
        stands("worth not not not not 1" + REST);
        stands("worth not not not not not 1" + REST);
        fault("worth not not not not not not 1" + REST, 26);
        stands("worth not(-(-1))" + REST);
        fault("worth not(-(-(1" + REST, 13);
        fault("worth not(-(- -1" + REST, 14);
        fault("worth ((((not -1" + REST, 14);
        fault("worth (((((not 1" + REST, 11);
        stands("worth (((((1-1)))))" + REST);
        fault("worth (((((1- -1" + REST, 14);
        e.terms(4, "(a ( till its ) , not and - till what they belong to ends)");
        stands("worth (((((1)))))*(((((1)))))" + REST);
        fault("worth ((((((1)", 11);
        stands("worth ((((1)+(1)))+((1)))" + REST);
        stands("worth ((((1)+((1))))*1)" + REST);
        fault("worth ((((1)+(((1", 15);
        stands("worth -----1+-----1" + REST);
        stands("worth -----1*-----1" + REST);
        stands("worth -(1)*(((((1)))))" + REST);
        fault("worth -(((((1", 11);
        stands("worth not not not not not 1 and not 1" + REST);
        stands("worth not not not not not 1 or(((((1)))))" + REST);
        stands("worth not not not not(1)*(1)" + REST);
        fault("worth not not not not not 1+(1)" + REST, 28);
        fault("worth not not not not not 1<-1" + REST, 28);
        fault("worth not not not not not 1=-1" + REST, 28);
        stands("worth (((((1)))));fee (((((1)))));wage -----1;");
    }

    // ---- texts

    private void texts() {
        e.terms(4, "TEXTS are numbered from 0 on, 6 at most");
        e.is("count(3)", 1);
        for (int t = 1; t <= 5; t++) {
            e.is("force(" + t + ")", -2);
            e.tape(SOUND);
            e.is("text()", t);
            e.is("count(3)", t + 1);
        }
        e.tape(SOUND);
        e.is("text()", -4);
        e.is("count(3)", 6);
        e.is("force(6)", -2);
        e.is("force(5)", 0);
        e.is("force(-1)", -2);
        e.is("force(0)", 5);
        for (int t = 1; t <= 5; t++) {
            e.town("");
            for (int before = 1; before < t; before++) {
                e.tape("worth 0" + "+0".repeat(69) + REST);
                e.then("text()");
            }
            e.law("worth 1" + ("+" + t).repeat(69) + ";fee " + t + "1;wage " + t + ";");
            e.is("asks(0, 0, 0, 0)", Math.min(99, 1 + 69 * t));
            e.is("asks(1, 0, 0, 0)", 10 * t + 1);
            e.is("asks(2, 0, 0, 0)", t);
        }
    }

    private void firstText() {
        e.terms(5, "TEXT 0, at first, and THE LAW: worth price * 2 ; fee 1 ; wage 1 ;");
        e.is("count(3)", 1);
        e.is("count(4)", 0);
        e.range("asks(0, 999, 99, $)", 0, 999, -2, 0, 2, 99, 99);
        e.is("asks(0, 0, 0, 49)", 98);
        e.is("asks(0, 0, 0, 50)", 99);
        e.range("asks(1, 999, $, 999)", 0, 99, -2, 1, 1, 1, 1);
        e.range("asks(2, $, 99, 999)", 0, 999, -2, 1, 1, 1, 1);
    }

    private void bounds() {
        e.terms(6, "(worth, fee 0 .. 99, wage 0 .. 9, else the bound)");
        e.law("worth many-1;fee many-1;wage many-1;");
        int[] many = {0, 1, 2, 9, 10, 11, 98, 99};
        for (int m : many) {
            e.is("asks(0, 0, " + m + ", 0)", Math.max(0, m - 1));
            e.is("asks(1, 0, " + m + ", 0)", Math.max(0, m - 1));
            e.is("asks(2, 0, " + m + ", 0)", Math.max(0, Math.min(9, m - 1)));
        }
        e.town("");
        e.law("worth many+1;fee many+1;wage many+1;");
        int[] more = {0, 7, 8, 9, 97, 98, 99};
        for (int m : more) {
            e.is("asks(0, 0, " + m + ", 0)", Math.min(99, m + 1));
            e.is("asks(1, 0, " + m + ", 0)", Math.min(99, m + 1));
            e.is("asks(2, 0, " + m + ", 0)", Math.min(9, m + 1));
        }
        value(GREATEST, 99);
        value("-(" + GREATEST + ")-1", 0);
        e.town("sort(0, 1, 0) purse() set(0, 0, 1)");
        e.law("worth 100;fee 100;wage 10;");
        e.is("often(0, 1, 2)", 99);
        e.is("pass()", 10);
        e.then("set(0, 0, 1) sort(0, 1, 0) purse() set(1, 1, 1)");
        e.is("swap(0, 1, 1)", 99);
    }

    private void names() {
        e.terms(6, "year: THE YEAR; whatever isn't told: 0.");
        e.law("worth year;fee year;wage year;");
        e.is("asks(0, 999, 99, 999)", 0);
        e.then("pass()");
        e.is("asks(1, 999, 99, 999)", 1);
        e.then("pass()", 97);
        e.is("asks(0, 0, 0, 0)", 98);
        e.then("pass()", 2);
        e.is("asks(0, 0, 0, 0)", 99);
        e.is("asks(2, 0, 0, 0)", 9);
        e.terms(13, "worth: price: the PRICE.");
        e.town("sort(3, 99, 9) purse() set(0, 0, 99)");
        e.law("worth price+100*(told+many+more+number);fee 1;wage 1;");
        e.is("often(0, 1, 2)", 99);
        e.is("often(0, 2, 2)", 98);
        e.is("often(0, 3, 2)", 90);
        e.terms(19, "fee: told: TOLD of the SORT that is given, number: its number; more: MORE of the one that is got.");
        e.town("sort(0, 7, 1) sort(0, 8, 2) purse() purse() set(0, 0, 9) set(0, 1, 9) set(1, 0, 9) set(1, 1, 9)");
        e.law("worth 1;fee told*10+more;wage 1;");
        e.is("swap(0, 1, 1)", 72);
        e.is("swap(0, 1, 10)", 81);
        e.law("worth 1;fee number*10+many+price;wage 1;");
        e.is("swap(0, 1, 1)", 0);
        e.is("swap(0, 1, 10)", 10);
        e.terms(26, "wage: told, more, number: the SORT's; many: how many the purse has left of it.");
        e.town("sort(0, 2, 3) sort(4, 1, 1) purse() set(0, 1, 6)");
        e.law("worth 1;fee 1;wage told+price;");
        e.is("pass()", 8);
        e.has("2 6");
        e.law("worth 1;fee 1;wage more;");
        e.is("pass()", 11);
        e.has("5 6");
        e.law("worth 1;fee 1;wage number*2;");
        e.is("pass()", 12);
        e.has("5 7");
        e.law("worth 1;fee 1;wage many;");
        e.is("pass()", 22);
        e.has("10 12");
    }

    // ---- promises 2 to 6

    private void count() {
        e.promise(2, "0 SORTS, 1 PURSES, 2 THE YEAR, 3 TEXTS, 4 THE LAW, 5 bytes of THE TAPE. BAD.");
        e.range("count($)", 0, 5, -2, 0, 0, 0, 0);
        e.is("count(2)", 0);
        e.is("count(3)", 1);
        e.town("sort(0, 1, 0) sort(0, 1, 0) purse() pass() pass() pass()");
        e.law(SOUND);
        e.tape("abcd");
        int[] then = {2, 1, 3, 2, 1, 4};
        for (int what = 0; what < 6; what++) {
            e.is("count(" + what + ")", then[what]);
        }
        e.range("count($)", 0, 5, -2, 2, 1, 1, 4);
    }

    private void feed() {
        e.promise(3, "The first n (1 .. 5) of five bytes (0 .. 255 each) come behind THE TAPE's, one by one: how many it has.");
        e.range("feed($, 32, 32, 32, 32, 32)", 1, 5, -2, 1, 2, 4, 5);
        e.tape("worth");
        e.range("feed($, 32, 32, 32, 32, 32)", 1, 5, -2, 6, 7, 9, 10);
        String word = "worth";
        for (int n = 1; n <= 5; n++) {
            e.town("");
            e.then("feed(" + n + ", 119, 111, 114, 116, 104)");
            e.is("count(5)", n);
            e.tape(word.substring(n) + " 1" + REST);
            e.is("text()", 1);
        }
        e.promise(3, "BAD: n, any of the five");
        for (int n : new int[] {1, 5}) {
            e.range("feed(" + n + ", $, 0, 0, 0, 0)", 0, 255, -2, n, n, n, n);
            e.range("feed(" + n + ", 0, $, 0, 0, 0)", 0, 255, -2, n, n, n, n);
            e.range("feed(" + n + ", 0, 0, $, 0, 0)", 0, 255, -2, n, n, n, n);
            e.range("feed(" + n + ", 0, 0, 0, $, 0)", 0, 255, -2, n, n, n, n);
            e.range("feed(" + n + ", 0, 0, 0, 0, $)", 0, 255, -2, n, n, n, n);
        }
        e.promise(3, "FULL: they have not all room (none comes).");
        for (int n = 1; n <= 5; n++) {
            e.town("");
            e.tape(blanks(159 - n));
            e.is("feed(" + n + ", 36, 36, 36, 36, 36)", 159);
            e.town("");
            e.tape(blanks(160 - n));
            e.is("feed(" + n + ", 36, 36, 36, 36, 36)", 160);
            e.is("text()", -100 - (160 - n));
            e.town("");
            e.tape(blanks(161 - n));
            e.is("feed(" + n + ", 36, 36, 36, 36, 36)", -4);
            e.is("count(5)", 161 - n);
            e.is("feed(" + n + ", 36, 36, 36, 36, 256)", -2);
            e.is("feed(6, 36, 36, 36, 36, 36)", -2);
            e.is("text()", -100 - (161 - n));
        }
    }

    private void text() {
        e.promise(4, "THE TAPE, which is empty then (by a FAULT, too), is a TEXT: its number");
        e.tape(SOUND);
        e.is("count(5)", 21);
        e.is("text()", 1);
        e.is("count(5)", 0);
        e.is("text()", -100);
        e.is("count(5)", 0);
        e.tape("worth");
        e.is("text()", -105);
        e.is("count(5)", 0);
        e.tape(SOUND);
        e.is("text()", 2);
        e.town("");
        e.tape("worth 99999999");
        e.is("text()", -106);
        e.tape("worth 9999");
        e.is("text()", -110);
        e.tape("worth told");
        e.is("text()", -110);
        e.tape("worth to");
        e.is("text()", -106);
        e.tape(SOUND);
        e.is("text()", 1);
        e.tape("worth 1;fee 1;wage 1");
        e.is("text()", -120);
        e.promise(4, "-100 less the place of its FAULT.");
        fault("$", 0);
        fault(" $", 1);
        fault(blanks(159) + "$", 159);
        fault(blanks(160), 160);
        e.promise(4, "FULL (ahead of the FAULT; then THE TAPE stays).");
        for (int t = 1; t < 5; t++) {
            e.tape(SOUND);
            e.then("text()");
        }
        e.is("text()", -100);
        e.tape("$");
        e.is("text()", -100);
        e.tape(SOUND);
        e.is("text()", 5);
        e.is("text()", -4);
        e.is("count(5)", 0);
        e.tape("$");
        e.is("text()", -4);
        e.is("count(5)", 1);
        e.tape(SOUND);
        e.is("text()", -4);
        e.is("count(5)", 22);
        e.is("count(3)", 6);
    }

    private void force() {
        e.promise(5, "A TEXT is THE LAW: which was. BAD.");
        e.range("force($)", 0, 0, -2, 0);
        e.tape("worth 1;fee 1;wage 1;");
        e.then("text()");
        e.range("force($)", 0, 1, -2, 0, 0);
        e.tape("worth 2;fee 1;wage 1;");
        e.then("text()");
        e.range("force($)", 0, 2, -2, 0, 0, 0);
        e.is("force(2)", 0);
        e.is("count(4)", 2);
        e.is("force(3)", -2);
        e.is("count(4)", 2);
        e.is("asks(0, 0, 0, 0)", 2);
        e.is("force(2)", 2);
        e.is("force(0)", 2);
    }

    private void asks() {
        e.promise(6, "What part 0 worth, 1 fee, 2 wage says (toldMore: 10 times told, and more, 0 .. 999; many 0 .. 99; "
            + "numberPrice: 100 times number, and price, 0 .. 999). BAD.");
        e.law("worth 7;fee 8;wage 9;");
        e.range("asks($, 0, 0, 0)", 0, 2, -2, 7, 8, 9);
        e.range("asks(0, $, 0, 0)", 0, 999, -2, 7, 7, 7, 7);
        e.range("asks(1, 0, $, 0)", 0, 99, -2, 8, 8, 8, 8);
        e.range("asks(2, 0, 0, $)", 0, 999, -2, 9, 9, 9, 9);
        e.town("");
        e.law("worth told;fee more;wage many;");
        int[] toldMore = {0, 1, 9, 10, 11, 989, 990, 999};
        for (int v : toldMore) {
            e.is("asks(0, " + v + ", 0, 0)", v / 10);
            e.is("asks(1, " + v + ", 0, 0)", v % 10);
        }
        e.is("asks(2, 999, 8, 999)", 8);
        e.is("asks(2, 999, 9, 999)", 9);
        e.town("");
        e.law("worth number;fee price;wage 0;");
        int[] numberPrice = {0, 1, 99, 100, 101, 899, 900, 999};
        for (int v : numberPrice) {
            e.is("asks(0, 0, 0, " + v + ")", v / 100);
            e.is("asks(1, 0, 0, " + v + ")", v % 100);
        }
    }
}
