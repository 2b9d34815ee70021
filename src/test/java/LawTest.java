/** Promises 1 to 6: a new object, count, feed, text, force, asks. */
public final class LawTest {
    private static final String REST = ";fee 1;wage 1;";
    private static final Due DUE = new Due("LawTest");

    public static void main(String[] args) {
        aNewObject();
        counts();
        feeds();
        textsThatStand();
        faults();
        whatIsOpen();
        tapeBehindText();
        longTexts();
        values();
        bounds();
        laws();
        asksOfWhat();
        DUE.end();
    }

    private static void aNewObject() {
        UnlikeCoins x = new UnlikeCoins();
        DUE.is("1 no purse", x.of(0, 0), -5);
        DUE.is("1 no sort", x.told(0, 0), -5);
        DUE.is("1 no image", x.back(), -3);
        DUE.is("1 sheets are missing", x.cell(3, 0, 0), -11);
    }

    private static void counts() {
        UnlikeCoins x = new UnlikeCoins();
        int[] first = {0, 0, 0, 1, 0, 0};
        for (int what = 0; what < 6; what++) {
            DUE.is("2 count at first", x.count(what), first[what]);
        }
        DUE.is("2 below", x.count(-1), -2);
        DUE.is("2 above", x.count(6), -2);
        x.sort(0, 1, 1);
        x.sort(0, 1, 1);
        x.purse();
        x.pass();
        x.pass();
        x.pass();
        Due.text(x, "worth 1" + REST);
        x.force(1);
        x.feed(4, 97, 97, 97, 97, 97);
        int[] then = {2, 1, 3, 2, 1, 4};
        for (int what = 0; what < 6; what++) {
            DUE.is("2 count then", x.count(what), then[what]);
        }
    }

    private static void feeds() {
        UnlikeCoins x = new UnlikeCoins();
        DUE.is("3 n below", x.feed(0, 1, 1, 1, 1, 1), -2);
        DUE.is("3 n above", x.feed(6, 1, 1, 1, 1, 1), -2);
        for (int i = 0; i < 5; i++) {
            int[] b = {0, 255, 0, 255, 0};
            b[i] = 256;
            DUE.is("3 a byte above", x.feed(1, b[0], b[1], b[2], b[3], b[4]), -2);
            b[i] = -1;
            DUE.is("3 a byte below", x.feed(5, b[0], b[1], b[2], b[3], b[4]), -2);
        }
        DUE.is("3 nothing came", x.count(5), 0);
        DUE.is("3 two of five", x.feed(2, 0, 255, 0, 0, 0), 2);
        for (int i = 7; i <= 157; i += 5) {
            DUE.is("3 five more", x.feed(5, 32, 32, 32, 32, 32), i);
        }
        DUE.is("3 one more", x.feed(1, 32, 0, 0, 0, 0), 158);
        DUE.is("3 not all room", x.feed(3, 32, 32, 32, 32, 32), -4);
        DUE.is("3 BAD is ahead of FULL", x.feed(3, 32, 32, 32, 32, 256), -2);
        DUE.is("3 none came", x.count(5), 158);
        DUE.is("3 just room", x.feed(2, 32, 32, 32, 32, 32), 160);
        DUE.is("3 no room", x.feed(1, 32, 32, 32, 32, 32), -4);
        orderOfBytes();
    }

    private static void orderOfBytes() {
        for (int n = 1; n <= 5; n++) {
            UnlikeCoins x = new UnlikeCoins();
            x.feed(n, 'w', 'o', 'r', 't', 'h');
            x.feed(1, ' ', 0, 0, 0, 0);
            x.feed(1, '$', 0, 0, 0, 0);
            DUE.is("3 the first n, in order", x.text(), n == 5 ? -106 : -100);
        }
    }

    private static void stands(String text) {
        DUE.is("4 stands: " + text, Due.text(new UnlikeCoins(), text), 1);
    }

    private static void fault(String text, int place) {
        DUE.is("4 fault: " + text, Due.text(new UnlikeCoins(), text), -100 - place);
    }

    private static void textsThatStand() {
        stands("worth 1 ; fee 1 ; wage 1 ;");
        stands("worth1;fee1;wage1;");
        stands("\n worth\n1 ;fee 1; wage 1;\n\n  ");
        stands("worth 9999" + REST);
        stands("worth 0000" + REST);
        stands("worth told or many and more < year + number * price" + REST);
        stands("worth 1 - -1" + REST);
        stands("worth (1 or 1) = (not 1)" + REST);
        stands("worth 1 and not 1 or not 1 < 2" + REST);
        stands("worth 1;fee 2;wage " + "1+".repeat(69) + "11;");
    }

    private static void faults() {
        fault("", 0);
        fault("  \n", 3);
        fault("worth", 5);
        fault("worth 1 ; fee 1 ; wage 1", 24);
        fault("worth 1 ; fee 1 ; wage 1  ", 26);
        fault("worth 1 ; fee 1 ; wage 1 ; x", 27);
        fault("worth 1 ; fee 1 ; wage 1 ; ;", 27);
        fault("worth 1 ; fee 1 ; wage 1 ; worth 1 ;", 27);
        fault("fee 1;wage 1;worth 1;", 0);
        fault("worth 1; wage 1; fee 1;", 9);
        fault("worth ;", 6);
        fault("worth 12345;", 6);
        fault("worth 1 00000;", 8);
        fault("worthy 1;", 0);
        fault("wort 1;", 0);
        fault("worthfee 1;", 0);
        fault("worth numbers;", 6);
        fault("worth tol;", 6);
        fault("worth 1 2;", 8);
        fault("worth 12ab;", 8);
        fault("worth told1;", 10);
        fault("worth 1 < 2 < 3;", 12);
        fault("worth 1 = 2 < 3;", 12);
        fault("worth 1 + not 2;", 10);
        fault("worth 1 < not 2;", 10);
        fault("worth - not 2;", 8);
        fault("worth + 2;", 6);
        fault("worth 2 * ;", 10);
        fault("worth 2 or or 2;", 11);
        fault("worth fee;", 6);
        fault("worth 1 $;", 8);
        fault("worth ; $;", 6);
        fault("Worth 1;", 0);
        fault("worth\t1;", 5);
        fault("worth \u00e9;", 6);
        fault("worth 1 / 2;", 8);
        fault("worth (1;", 8);
        fault("worth 1);", 7);
        fault("worth ();", 7);
        fault("worth 1 ; fee 1 ; wage 1 ; 5", 27);
        fault("worth 1 or ;", 11);
        fault("worth 1 and ;", 12);
        fault("worth 1 + ;", 10);
        fault("worth 1 < ;", 10);
        fault("worth not ;", 10);
        fault("worth (xy);", 7);
        fault("xorth 1;", 0);
        fault("worth xold;", 6);
    }

    private static void whatIsOpen() {
        stands("worth (((((1)))))" + REST);
        fault("worth ((((((1", 11);
        stands("worth -----1" + REST);
        fault("worth ------1", 11);
        stands("worth not not not not not 1" + REST);
        fault("worth not not not not not not 1", 26);
        fault("worth (not (-(-1", 14);
        fault("worth (not (-((1", 14);
        fault("worth (-(-(not 1", 11);
        stands("worth (((((1)))))+(((((1)))))" + REST);
        stands("worth -----1*-----1" + REST);
        stands("worth not not not not not 1 and not 1 or not 1" + REST);
        fault("worth not not not not not 1 < -1", 30);
        fault("worth not not not not not 1 + (1)", 30);
        stands("worth ----(1) * (((((1)))))" + REST);
        fault("worth ((((-(1", 11);
        stands("worth (((((1)))));fee (((((1)))));wage (((((1)))));");
    }

    private static void tapeBehindText() {
        UnlikeCoins x = new UnlikeCoins();
        DUE.is("4 a fault", Due.text(x, "worth"), -105);
        DUE.is("4 the tape is empty by a fault", x.count(5), 0);
        DUE.is("4 no text came", x.count(3), 1);
        for (int t = 1; t <= 5; t++) {
            DUE.is("4 numbers", Due.text(x, "worth " + t + REST), t);
            DUE.is("4 the tape is empty", x.count(5), 0);
        }
        DUE.is("4 FULL ahead of the fault", x.text(), -4);
        DUE.is("4 FULL", Due.text(x, "worth 1" + REST), -4);
        DUE.is("4 then the tape stays", x.count(5), 21);
        DUE.is("4 no text came by FULL", x.count(3), 6);
        for (int t = 1; t <= 5; t++) {
            x.force(t);
            DUE.is("4 each keeps its own", x.asks(0, 0, 0, 0), t);
        }
        x.force(0);
        DUE.is("4 so does the first", x.asks(0, 0, 0, 4), 8);
    }

    private static void longTexts() {
        UnlikeCoins x = new UnlikeCoins();
        for (int t = 1; t <= 5; t++) {
            String text = "worth 0" + ("+" + t).repeat(20) + ";fee 0" + "-1".repeat(20) + "+" + t + "0;wage " + t + ";";
            DUE.is("4 a long text", Due.text(x, text), t);
        }
        for (int t = 1; t <= 5; t++) {
            x.force(t);
            DUE.is("6 a long worth", x.asks(0, 0, 0, 0), Math.min(99, 20 * t));
            DUE.is("6 a long fee", x.asks(1, 0, 0, 0), Math.max(0, 10 * t - 20));
            DUE.is("6 a short wage", x.asks(2, 0, 0, 0), t);
        }
    }

    private static void value(String e, int want) {
        UnlikeCoins x = new UnlikeCoins();
        x.force(Due.text(x, "worth " + e + REST));
        DUE.is("6 " + e, x.asks(0, 345, 67, 89), want);
    }

    private static void values() {
        value("7", 7);
        value("2+3*4", 14);
        value("(2+3)*4", 20);
        value("10-3-2", 5);
        value("10-(3-2)", 9);
        value("5 or 0", 1);
        value("0 or 0", 0);
        value("0 or 5", 1);
        value("3 and 2", 1);
        value("3 and 0", 0);
        value("0 and 3", 0);
        value("0-5 and 2", 1);
        value("not 0", 1);
        value("not 5", 0);
        value("not not 5", 1);
        value("not 1 = 2", 1);
        value("not 2 < 2 + 1", 0);
        value("1 < 2", 1);
        value("2 < 2", 0);
        value("3 < 2", 0);
        value("3 = 3", 1);
        value("3 = 4", 0);
        value("1 + 1 = 2 * 1", 1);
        value("-1 < 0", 1);
        value("-1 + 5", 4);
        value("2 * -3 + 10", 4);
        value("--5", 5);
        value("-2*-3", 6);
        value("1 or 1 and 0", 1);
        value("(1 or 1) and 0", 0);
        value("not 0 and 0", 0);
        value("(1 < 2) + (2 < 3) + 5", 7);
        value("0 < 9999*9999*21", 1);
        value("0 < 9999*9999*22", 0);
        value("9999*9999*43 < 9999*9999", 1);
        value("told", 34);
        value("more", 5);
        value("many", 67);
        value("number", 0);
        value("price", 89);
        value("year", 0);
        value("1+(1*(1+1*(1+1*(1+1*(0 or 1 and 2 < 3 + 4 * 5)))))", 5);
        value("0 or 1 and 0<1+1*(0 or 1 and 0<1+1*(0 or 1 and 0<1+1*(0 or 1 and 0<1+1*(0 or 1 and 3=3))))", 1);
    }

    private static void bounds() {
        UnlikeCoins x = new UnlikeCoins();
        x.force(Due.text(x, "worth 50+many;fee 50+many;wage many;"));
        DUE.is("6 worth in bounds", x.asks(0, 0, 49, 0), 99);
        DUE.is("6 worth at most", x.asks(0, 0, 50, 0), 99);
        DUE.is("6 fee at most", x.asks(1, 0, 99, 0), 99);
        DUE.is("6 fee in bounds", x.asks(1, 0, 48, 0), 98);
        DUE.is("6 wage in bounds", x.asks(2, 0, 8, 0), 8);
        DUE.is("6 wage at most", x.asks(2, 0, 10, 0), 9);
        x.force(Due.text(x, "worth many-50;fee many-50;wage many-50;"));
        for (int part = 0; part < 3; part++) {
            DUE.is("6 at least", x.asks(part, 0, 49, 0), 0);
            DUE.is("6 above the least", x.asks(part, 0, 51, 0), 1);
        }
    }

    private static void laws() {
        UnlikeCoins x = new UnlikeCoins();
        DUE.is("5 the law at first", x.count(4), 0);
        DUE.is("5 below", x.force(-1), -2);
        DUE.is("5 no such text", x.force(1), -2);
        Due.text(x, "worth 11;fee 12;wage 3;");
        Due.text(x, "worth 21;fee 22;wage 4;");
        DUE.is("5 a text alone is no law", x.count(4), 0);
        DUE.is("5 which was", x.force(2), 0);
        DUE.is("5 worth by the law", x.asks(0, 0, 0, 0), 21);
        DUE.is("5 which was then", x.force(1), 2);
        DUE.is("5 fee by the law", x.asks(1, 0, 0, 0), 12);
        DUE.is("5 the same", x.force(1), 1);
        DUE.is("5 wage by the law", x.asks(2, 0, 0, 0), 3);
        DUE.is("5 above", x.force(3), -2);
        DUE.is("5 stays", x.count(4), 1);
    }

    private static void asksOfWhat() {
        UnlikeCoins x = new UnlikeCoins();
        DUE.is("6 the first worth", x.asks(0, 0, 0, 7), 14);
        DUE.is("6 the first fee", x.asks(1, 999, 99, 999), 1);
        DUE.is("6 the first wage", x.asks(2, 999, 99, 999), 1);
        DUE.is("6 part below", x.asks(-1, 0, 0, 0), -2);
        DUE.is("6 part above", x.asks(3, 0, 0, 0), -2);
        DUE.is("6 toldMore below", x.asks(0, -1, 0, 0), -2);
        DUE.is("6 toldMore above", x.asks(0, 1000, 0, 0), -2);
        DUE.is("6 many below", x.asks(0, 0, -1, 0), -2);
        DUE.is("6 many above", x.asks(0, 0, 100, 0), -2);
        DUE.is("6 numberPrice below", x.asks(0, 0, 0, -1), -2);
        DUE.is("6 numberPrice above", x.asks(0, 0, 0, 1000), -2);
        x.force(Due.text(x, "worth number;fee price;wage year;"));
        DUE.is("6 number", x.asks(0, 0, 0, 789), 7);
        DUE.is("6 price", x.asks(1, 0, 0, 789), 89);
        x.pass();
        x.pass();
        DUE.is("6 year", x.asks(2, 0, 0, 0), 2);
    }
}
