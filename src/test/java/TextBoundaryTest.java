/** The boundaries of a told text: its bytes, tokens, numbers, lines and laws, and where a fault is. */
public final class TextBoundaryTest {
    private static final int NONE = Bounds.NONE;
    private static final String SIGNS = ";+-*()[]=<>";

    // Tokens with a blank ahead of and behind each.
    private static final String ALL = "guild mocks may answers street rank long loud verse melts north east south west or and not"
            + " ra rb la lb ma mb mutual night ; + - * ( ) [ ] = < > 1 nights x";
    private static final String SUM_BEGINS = " ra rb la lb ma mb mutual night ( 1 ";
    private static final String UNIT_BEGINS = SUM_BEGINS + "not [ ";
    private static final String SUM_GOES_ON = " + - * ";
    private static final String COMPARED = SUM_GOES_ON + "= < > ";
    private static final String FLAG = " rank long loud verse melts ";

    public static void main(String[] args) {
        bytesOfAText();
        noText();
        blanks();
        words();
        numbers();
        flags();
        flagsNotTold();
        laterFlags();
        guilds();
        mocks();
        laterMocks();
        streets();
        linesEnd();
        whatCanStandThere();
        theEnd();
        theEndWithinATape();
        firstAlongTheText();
        leastKind();
        sixWithinOneAnother();
        sixOnceMore();
        numbersOfLaws();
        keptWithinAMillion();
        nightModuloThousand();
        withoutLaws();
        laterLaws();
        Bounds.end("TextBoundaryTest");
    }

    private static String fill(String text, int length) {
        return text + " ".repeat(length - text.length());
    }

    private static void bytesOfAText() {
        Bounds.says("a TEXT of at most 900 bytes");
        Bounds.fine(fill("street east 20;", 899) + "\n", 1);
        Bounds.fine(" ".repeat(885) + "street east 20;", 1);
        Bounds.fine("guild;" + " ".repeat(888) + "guild;", 2);
        Bounds.fine("may 1=1;".repeat(112) + "    ", 112);
        String law = "may 1" + "+1".repeat(445) + "=10";
        Bounds.fine(law + " ;", 1);
        Bounds.faulty(law + " ", 2, 899);
        Bounds.faulty(law + "  ", 2, 900);
        Bounds.faulty(law + ")", 2, 898);
        Bounds.faulty(fill("guild", 900), 2, 900);
        Bounds.faulty(" ".repeat(899) + "?", 1, 899);
    }

    private static void noText() {
        Bounds.says("without one: no GUILDS, no STREETS");
        Bounds.fine("", 0);
        Bounds.fine(" ", 0);
        InsultRow x = Bounds.lately();
        Bounds.due("carnival(0)", x.carnival(0), 0);
        int[] counts = {0, 0, 0, 1, 0, 0, 0, 0, 0, 0, NONE};
        for (int what = 0; what < counts.length; what++) {
            Bounds.due("count(" + what + ") behind it", x.count(what), counts[what]);
        }
    }

    private static void blanks() {
        Bounds.says("between them blanks (10, 32); 1 no TOKEN begins so");
        for (int sign = 0; sign < 256; sign++) {
            boolean blank = sign == 10 || sign == 32;
            boolean begins = sign >= 'a' && sign <= 'z' || sign >= '0' && sign <= '9' || SIGNS.indexOf(sign) >= 0;
            String text = "guild rank 1" + (char) sign + ";";
            if (blank) {
                Bounds.fine(text, 1);
            } else if (!begins) {
                Bounds.faulty(text, 1, 12);
                Bounds.faulty((char) sign + "guild;", 1, 0);
                Bounds.faulty("guild;" + (char) sign, 1, 6);
            } else if (sign > '9' || sign < '0') {
                Bounds.faulty(text, 2, sign == ';' ? 13 : 12);
            }
        }
        Bounds.fine("\n guild \n\n  rank \n 7 \n ; \n", 1);
        Bounds.fine("guild rank7long2;street\nnorth20;", 2);
    }

    private static void words() {
        Bounds.says("TOKENS, as long as they go: words (small letters)");
        Bounds.faulty("guildrank 5;", 2, 0);
        Bounds.faulty("guild rankk 5;", 2, 6);
        Bounds.faulty("guild ran 5;", 2, 6);
        Bounds.faulty("guil d;", 2, 0);
        Bounds.faulty("gui;", 2, 0);
        Bounds.faulty("a;", 2, 0);
        Bounds.faulty("z;", 2, 0);
        Bounds.faulty("x".repeat(899) + ";", 2, 0);
        Bounds.faulty("x".repeat(900), 2, 0);
        Bounds.faulty("guilD;", 2, 0);
        Bounds.faulty("guildD;", 1, 5);
        Bounds.faulty("Guild;", 1, 0);
        Bounds.faulty("may notra=1;", 2, 4);
        Bounds.fine("may not ra=1and rb=1or la=1;", 1);
    }

    private static void numbers() {
        Bounds.says("N (1 to 3 digits); 4 digits and more: at their first");
        Bounds.fine("guild rank 9;", 1);
        Bounds.fine("guild rank 99;", 1);
        Bounds.fine("guild rank 099;", 1);
        Bounds.fine("guild rank 000;", 1);
        Bounds.faulty("guild rank 0099;", 1, 11);
        Bounds.faulty("guild rank 0000;", 1, 11);
        Bounds.faulty("guild rank 1000;", 1, 11);
        Bounds.faulty("guild rank 00000000099;", 1, 11);
        Bounds.faulty("guild rank 4294967296;", 1, 11);
        Bounds.faulty("guild rank " + "9".repeat(889), 1, 11);
        Bounds.faulty("guild rank 09 9;", 2, 14);
        Bounds.faulty("1234", 1, 0);
        Bounds.faulty("123", 2, 0);
        Bounds.faulty("street north 0020;", 1, 13);
        Bounds.faulty("guild;guild;mocks 0001 0;", 1, 18);
        Bounds.faulty("guild;guild;mocks 1 0000;", 1, 20);
        InsultRow x = Bounds.of("guild rank 007 long 09 loud 8 verse 06 melts 050;");
        int[] want = {NONE, 7, 9, 8, 6, 50, 0};
        for (int what = 0; what < 7; what++) {
            Bounds.due("guild(0, " + what + ")", x.guild(0, what), want[what]);
        }
    }

    private static void flags() {
        String[] words = {"rank", "long", "loud", "verse", "melts"};
        int[] least = {0, 1, 0, 0, 1};
        int[] most = {99, 9, 9, 9, 99};
        for (int flag = 0; flag < 5; flag++) {
            Bounds.says("RANK 0 to 99, LONG 1 to 9, LOUD 0 to 9, VERSE 0 to 9, melts 1 to 99: " + words[flag]);
            String start = "guild " + words[flag] + " ";
            for (int n = 0; n <= 101; n++) {
                if (n >= least[flag] && n <= most[flag]) {
                    Bounds.due(start + n, Bounds.of(start + n + ";").guild(0, flag + 1), n);
                } else {
                    Bounds.faulty(start + n + ";", 3, start.length());
                }
            }
            Bounds.faulty(start + "999;", 3, start.length());
            Bounds.faulty(start + "-1;", 2, start.length());
        }
    }

    private static void flagsNotTold() {
        Bounds.says("RANK (0), LONG (1), LOUD (0), VERSE (0), melts (0: never)");
        InsultRow x = Bounds.of("guild rank 9 long 9 loud 9 verse 9 melts 9;");
        Bounds.tell(x, "guild;");
        int[] want = {NONE, 0, 1, 0, 0, 0, 0};
        for (int what = 0; what < 7; what++) {
            Bounds.due("guild(0, " + what + ")", x.guild(0, what), want[what]);
        }
        Bounds.tell(x, "guild;" + "street east 20;".repeat(12));
        Bounds.due("melts never", x.melted(0, 999), 0);
    }

    private static void laterFlags() {
        Bounds.says("later FLAGS of one word strike");
        InsultRow x = Bounds.of("guild rank 99 long 9 melts 99 rank 0 long 1 melts 1 rank 5;");
        Bounds.due("rank", x.guild(0, 1), 5);
        Bounds.due("long", x.guild(0, 2), 1);
        Bounds.due("melts", x.guild(0, 5), 1);
        Bounds.faulty("guild rank 100 rank 5;", 3, 11);
        Bounds.faulty("guild rank 5 rank 100;", 3, 18);
        Bounds.fine("guild" + " rank 99".repeat(111) + ";", 1);
    }

    private static void guilds() {
        Bounds.says("numbered from 0 on as they come, 10 at most; 4 the first TOKEN of an 11th guild");
        StringBuilder ten = new StringBuilder();
        for (int g = 0; g < 10; g++) {
            ten.append("guild rank ").append(90 + g).append(';');
        }
        InsultRow x = Bounds.of(ten.toString());
        Bounds.due("ten", x.count(1), 10);
        for (int g = 0; g < 10; g++) {
            Bounds.due("rank of the " + g + "-th", x.guild(g, 1), 90 + g);
        }
        Bounds.fine(Bounds.TEN, 10);
        Bounds.fine(Bounds.TEN + "mocks 9 0;street east 1;may 1=1;", 13);
        Bounds.faulty(Bounds.TEN + "guild;", 4, 60);
        Bounds.faulty(Bounds.TEN + "guild", 4, 60);
        Bounds.faulty(Bounds.TEN + "may 1=1; guild ?", 4, 69);
        Bounds.faulty(Bounds.TEN + "guild;guild;", 4, 60);
        Bounds.faulty(Bounds.TEN + "guilds;", 2, 60);
    }

    private static void mocks() {
        Bounds.says("mocks: a GUILD, another one (all told ahead)");
        for (int n = 1; n <= 10; n++) {
            String told = "guild;".repeat(n);
            int at = told.length() + 6;
            int last = n - 1;
            if (n > 1) {
                Bounds.due("the last", Bounds.of(told + "mocks " + last + " 0;").guild(last, 0), 0);
                Bounds.due("of the last", Bounds.of(told + "mocks 0 " + last + ";").guild(0, 0), last);
            }
            Bounds.faulty(told + "mocks " + n + " 0;", 3, at);
            Bounds.faulty(told + "mocks 0 " + n + ";", 3, at + 2);
            Bounds.says("3 N is out of its bounds (the second GUILD of mocks also: the first one)");
            Bounds.faulty(told + "mocks " + last + " " + last + ";", 3, at + 2);
            Bounds.faulty(told + "mocks " + n + " " + n + ";", 3, at);
        }
        Bounds.faulty("mocks 0 0;", 3, 6);
        Bounds.faulty("mocks 0 1;guild;guild;", 3, 6);
        Bounds.faulty("guild;mocks 0 1;guild;", 3, 14);
        Bounds.faulty(Bounds.TEN + "mocks 999 0;", 3, 66);
        Bounds.faulty(Bounds.TEN + "mocks 0 999;", 3, 68);
    }

    private static void laterMocks() {
        Bounds.says("mocks: a later one strikes");
        InsultRow x = Bounds.of("guild;guild;guild;mocks 0 1;mocks 0 2;mocks 1 2;mocks 1 0;mocks 0 1;");
        Bounds.due("guild(0, 0)", x.guild(0, 0), 1);
        Bounds.due("guild(1, 0)", x.guild(1, 0), 0);
        Bounds.due("mockers of 2", x.guild(2, 6), 0);
        Bounds.due("mockers of 1", x.guild(1, 6), 1);
        Bounds.due("lines", x.count(0), 8);
        Bounds.fine("guild;guild;" + "mocks 0 1;".repeat(88), 90);
    }

    private static void streets() {
        Bounds.says("street: 1 to 20 steps");
        String[] ways = {"north", "east", "south", "west"};
        int[] x = {0, 1, 0, -1};
        int[] y = {1, 0, -1, 0};
        for (int way = 0; way < 4; way++) {
            String start = "street " + ways[way] + " ";
            for (int n = 1; n <= 20; n += 19) {
                InsultRow row = Bounds.of(start + n + ";");
                Bounds.due(start + n + ", steps", row.count(3), n + 1);
                Bounds.due(start + n + ", x", row.step(n, 0), n * x[way]);
                Bounds.due(start + n + ", y", row.step(n, 1), n * y[way]);
            }
            Bounds.faulty(start + "0;", 3, start.length());
            Bounds.faulty(start + "21;", 3, start.length());
            Bounds.faulty(start + "999;", 3, start.length());
            Bounds.faulty(start + ";", 2, start.length());
        }
        Bounds.says("street: 12 at most; 4 the first TOKEN of a 13th street");
        String twelve = "street west 20;".repeat(12);
        InsultRow far = Bounds.of(twelve);
        Bounds.due("streets", far.count(2), 12);
        Bounds.due("steps", far.count(3), 241);
        Bounds.due("x of the last", far.step(240, 0), -240);
        Bounds.fine(twelve + "guild;", 13);
        Bounds.faulty(twelve + "street west 1;", 4, 180);
        Bounds.faulty(twelve + "street", 4, 180);
        Bounds.faulty(twelve + "guild;street up", 4, 186);
        Bounds.faulty(twelve + "streets", 2, 180);
        Bounds.faulty("street up 1;", 2, 7);
        Bounds.faulty("street 1 north;", 2, 7);
    }

    private static void linesEnd() {
        Bounds.says("{ LINE ; }");
        Bounds.faulty(";", 2, 0);
        Bounds.faulty("guild;;", 2, 6);
        Bounds.faulty("guild guild;", 2, 6);
        Bounds.faulty("guild;guild;mocks 0 1 guild;", 2, 22);
        Bounds.faulty("street east 1 street east 1;", 2, 14);
        Bounds.faulty("may 1=1 answers 1=1;", 2, 8);
        Bounds.faulty("rank 1;", 2, 0);
        Bounds.faulty("north 1;", 2, 0);
        Bounds.faulty("not 1=1;", 2, 0);
        Bounds.faulty("may;", 2, 3);
        Bounds.faulty("may [];", 2, 5);
        Bounds.faulty("may ()=1;", 2, 5);
        Bounds.faulty("may not;", 2, 7);
        Bounds.faulty("street;", 2, 6);
        Bounds.faulty("mocks;", 2, 5);
    }

    /** Behind a beginning, those tokens can stand that are named; all others are a fault of kind 2 there. */
    private static void stands(String beginning, String can) {
        for (String token : ALL.split(" ")) {
            String text = "guild;guild;" + beginning + " " + token;
            InsultRow x = new InsultRow();
            int answer = Bounds.tell(x, text);
            boolean stands = can.contains(" " + token + " ");
            boolean ends = stands && token.equals(";");
            // What can stand there ends the line, or wants more at the end of the text.
            Bounds.due("'" + text + "'", answer, ends ? 3 : -12);
            Bounds.due("'" + text + "', place", x.fault(1),
                    ends ? NONE : stands ? text.length() : text.length() - token.length());
            Bounds.due("'" + text + "', lines that stay", x.count(0), ends ? 3 : 0);
        }
    }

    private static void whatCanStandThere() {
        Bounds.says("2 it can't stand there");
        stands("", " guild mocks may answers street ");
        stands("guild", FLAG + "; ");
        stands("guild rank", " 1 ");
        stands("guild rank 1", FLAG + "; ");
        stands("mocks", " 1 ");
        stands("mocks 0", " 1 ");
        stands("mocks 0 1", " ; ");
        stands("street", " north east south west ");
        stands("street north", " 1 ");
        stands("street north 1", " ; ");
        for (String law : new String[] {"may", "answers"}) {
            for (String end : new String[] {"", " not", " [", " not not", " not [", " [ not", " 1=1 and", " 1=1 or", " [ 1=1 and",
                " not 1=1 or", " [1=1] and", " (1)=1 or"}) {
                stands(law + end, UNIT_BEGINS);
                stands(law + end + " 1", COMPARED);
                stands(law + end + " (1)", COMPARED);
                stands(law + end + " 1+(1)", COMPARED);
                boolean square = end.contains("[") && !end.contains("]");
                String shut = (square ? "] " : "; ") + "and or ";
                for (String sum : new String[] {" 1", " 1=1", " 1<1*1", " 1>(1)"}) {
                    boolean compared = sum.length() > 2;
                    stands(law + end + sum, compared ? SUM_GOES_ON + shut : COMPARED);
                    stands(law + end + sum + " +", SUM_BEGINS);
                    stands(law + end + sum + " - (", SUM_BEGINS);
                    stands(law + end + sum + " * ( 1", SUM_GOES_ON + ") ");
                    stands(law + end + sum + " + ( ra - (lb) ", SUM_GOES_ON + ") ");
                }
                stands(law + end + " 1 =", SUM_BEGINS);
                stands(law + end + " 1 < (", SUM_BEGINS);
                stands(law + end + " 1 > (1", SUM_GOES_ON + ") ");
                stands(law + end + " [1=1", SUM_GOES_ON + "] and or ");
                stands(law + end + " [1=1]", " " + shut);
                stands(law + end + " (", SUM_BEGINS);
                stands(law + end + " (1", SUM_GOES_ON + ") ");
            }
        }
    }

    private static void theEnd() {
        Bounds.says("2 it can't stand there (the end: the text's length)");
        String[] broken = {"guild", "guild rank", "guild rank 1", "guild;guild;mocks", "guild;guild;mocks 0",
            "guild;guild;mocks 0 1", "street", "street east", "street east 1", "may", "may 1", "may 1+", "may 1=", "may 1=1",
            "may 1=1 and", "may 1=1 or", "may not", "may [", "may [1=1", "may [1=1]", "may (", "may (1", "may (1)", "may 1=(1)",
            "answers", "answers ra", "answers ra<", "answers not ra<rb"};
        for (String text : broken) {
            Bounds.faulty(text, 2, text.length());
            Bounds.faulty(text + " \n", 2, text.length() + 2);
            Bounds.faulty("guild;guild;\n" + text, 2, text.length() + 13);
        }
    }

    private static void theEndWithinATape() {
        Bounds.says("The first n bytes of the tape are THE CARNIVAL");
        String text = "guild rank 12;guild;";
        int[] kinds = {0, 2, 2, 2, 2, 2, 2, 2, 2, 2, 2, 2, 2, 2, 0, 2, 2, 2, 2, 2, 0};
        int[] places = {NONE, 0, 0, 0, 0, 5, 6, 6, 6, 6, 10, 11, 12, 13, NONE, 14, 14, 14, 14, 19, NONE};
        for (int n = 0; n <= 20; n++) {
            InsultRow x = new InsultRow();
            Bounds.feed(x, text);
            Bounds.due("carnival(" + n + ")", x.carnival(n), kinds[n] != 0 ? -12 : n == 20 ? 2 : n / 14);
            Bounds.due("fault(0) of " + n, x.fault(0), kinds[n]);
            Bounds.due("fault(1) of " + n, x.fault(1), places[n]);
            Bounds.due("count(7) of " + n, x.count(7), 0);
        }
        InsultRow x = new InsultRow();
        Bounds.feed(x, "guild rank 0991;");
        Bounds.due("a fourth digit behind the text", x.carnival(14), -12);
        Bounds.due("the end", x.fault(1), 14);
        Bounds.feed(x, "guild rank 0991;");
        Bounds.due("a fourth digit in the text", x.carnival(15), -11);
        Bounds.due("at the first", x.fault(1), 11);
    }

    private static void firstAlongTheText() {
        Bounds.says("FAULTS, the first along the text");
        Bounds.faulty("guild long 0;guild ?", 3, 11);
        Bounds.faulty("guild ?;guild long 0;", 1, 6);
        Bounds.faulty("guild wide 1234;", 2, 6);
        Bounds.faulty("guild long 10 ?", 3, 11);
        Bounds.faulty("guild long 9 ?", 1, 13);
        Bounds.faulty(Bounds.TEN + "guild long 0;", 4, 60);
        Bounds.faulty("guild long 0;" + Bounds.TEN, 3, 11);
        Bounds.faulty("may (((((((1;guild long 0;", 4, 10);
        Bounds.faulty("may ((((((1;guild long 0;", 2, 11);
        Bounds.faulty("mocks 0 0;?", 3, 6);
        Bounds.faulty("guild;mocks 0 0 ?", 3, 14);
        Bounds.faulty("street east 21 ?", 3, 12);
    }

    private static void leastKind() {
        Bounds.says("FAULTS, of one TOKEN the least kind");
        Bounds.faulty("guild 1000;", 1, 6);
        Bounds.faulty("1000;", 1, 0);
        Bounds.faulty("guild rank 1000;", 1, 11);
        Bounds.faulty("guild;guild;mocks 1000 0;", 1, 18);
        Bounds.faulty("may 1=1 1000;", 1, 8);
        Bounds.faulty("guild 100;", 2, 6);
        Bounds.faulty("guild rank 5 100;", 2, 13);
        Bounds.faulty("guild;guild;mocks 0 1 7;", 2, 22);
        Bounds.faulty("street 21;", 2, 7);
        Bounds.faulty("street east 20 21;", 2, 15);
        Bounds.faulty("may ((((((1(", 2, 11);
        Bounds.faulty("may ((((((not", 2, 10);
        Bounds.faulty("may (((((([", 2, 10);
        Bounds.faulty("may [[[[[[1=not 1=1", 2, 12);
        Bounds.faulty("may [[[[[[1=1 not", 2, 14);
        Bounds.faulty("may [[[[[[1=1(", 2, 13);
        Bounds.faulty("may ((((((?", 1, 10);
        Bounds.faulty("may ((((((1234", 1, 10);
        Bounds.faulty(Bounds.TEN + "may guild;", 2, 64);
        Bounds.faulty(Bounds.TEN + "mocks guild;", 2, 66);
        Bounds.faulty("guild;".repeat(9) + "guild guild;", 2, 60);
        Bounds.faulty("street east 1;".repeat(12) + "guild street;", 2, 174);
        Bounds.faulty("street east 1;".repeat(11) + "street east 1 street;", 2, 168);
    }

    /** Six that open, of all sorts in all orders that can be; then a seventh. */
    private static void sixWithinOneAnother() {
        Bounds.says("At most six of not [ ( within one another; 4 a seventh of not [ (");
        for (int units = 0; units <= 6; units++) {
            for (int mask = 0; mask < 1 << units; mask++) {
                StringBuilder open = new StringBuilder("may ");
                StringBuilder shut = new StringBuilder();
                for (int i = 0; i < units; i++) {
                    boolean square = (mask >> i & 1) != 0;
                    open.append(square ? "[" : "not ");
                    shut.append(square ? "]" : "");
                }
                int rounds = 6 - units;
                String all = open + "(".repeat(rounds);
                String end = ")".repeat(rounds) + "=1" + shut + ";";
                Bounds.fine(all + "1" + end, 1);
                Bounds.fine(open + "1=" + "(".repeat(rounds) + "1" + ")".repeat(rounds) + shut + ";", 1);
                Bounds.faulty(all + "(1)" + end, 4, all.length());
                if (units == 6) {
                    Bounds.faulty(all + "not 1" + end, 4, all.length());
                    Bounds.faulty(all + "[1=1]" + shut + ";", 4, all.length());
                } else {
                    Bounds.faulty(open + "1=" + "(".repeat(rounds + 1), 4, open.length() + 2 + rounds);
                    Bounds.faulty(open + "1+1*" + "(".repeat(rounds + 1), 4, open.length() + 4 + rounds);
                }
            }
        }
    }

    private static void sixOnceMore() {
        Bounds.says("At most six of not [ ( within one another: what has shut counts no more");
        String six = "not not not not not not 1=1";
        Bounds.fine("may " + six + " and " + six + " or " + six + ";answers " + six + ";", 2);
        Bounds.fine("may ((((((1))))))=((((((1)))))) and ((((((1))))))*((((((1))))))+((((((1))))))<1;", 1);
        Bounds.fine("may [[[[[[1=1]]]]]] and [[[[[[1=1]]]]]] or [[[[[[1=1]]]]]];", 1);
        Bounds.fine("may (1)+(1)+(1)+(1)+(1)+(1)+(1)+(1)=(1)*(1);", 1);
        Bounds.fine("may not 1=1 and not 1=1 and not 1=1 and not 1=1 or not 1=1 or not 1=1 or not 1=1 and not 1=1;", 1);
        Bounds.fine("may [1=1] and [1=1] and [1=1] and [1=1] or [1=1] or [1=1] or [1=1] or [1=1];", 1);
        Bounds.fine("may [not [not 1=1] and not not not (1)=1] or not not [not ((1))=1];", 1);
        Bounds.faulty("may [not [not 1=1] and not not not (1)=1] or not not [not (((1)))=1];", 4, 60);
        Bounds.faulty("may [not 1=1 and not not not not not (1)=1];", 4, 37);
        Bounds.fine("may [not 1=1 and not not not not (1)=1];", 1);
        Bounds.faulty("may not 1=1 or not not not not not not not 1=1;", 4, 39);
        Bounds.faulty("may (1)=(1) and (((((((1", 4, 22);
        Bounds.faulty("may " + six + ";answers not " + six + ";", 4, 64);
        InsultRow x = Bounds.of("guild;guild;may [[[[[[1=1]]]]]];");
        Bounds.due("six that hold", x.may(0, 1) ? 1 : 0, 1);
        Bounds.tell(x, "guild;guild;may " + six + ";");
        Bounds.due("six not", x.may(0, 1) ? 1 : 0, 1);
        Bounds.tell(x, "guild;guild;may not not not not not 1=1;");
        Bounds.due("five not", x.may(0, 1) ? 1 : 0, 0);
        Bounds.tell(x, "guild;guild;may 2*(1+2*(1+2*(1+2*(1+2*(1+2*(1+2*3))))))=510;");
        Bounds.due("six sums within one another", x.may(0, 1) ? 1 : 0, 1);
    }

    private static void numbersOfLaws() {
        Bounds.says("ATOM: N (1 to 3 digits)");
        Bounds.fine("may 0=000;answers 999=999;", 2);
        Bounds.faulty("may 1000=1;", 1, 4);
        Bounds.faulty("may 1=1000;", 1, 6);
        Bounds.faulty("may 0000=1;", 1, 4);
        law("999=998+1", true);
        law("999>998", true);
        law("000=0", true);
        law("007=7", true);
    }

    private static void law(String law, boolean holds) {
        InsultRow x = Bounds.of("guild;guild;may " + law + ";");
        Bounds.due("may(0, 1) by " + law, x.may(0, 1) ? 1 : 0, holds ? 1 : 0);
    }

    private static void keptWithinAMillion() {
        Bounds.says("each + - * kept from -1,000,000 to 1,000,000");
        String most = "100*100*100";
        String least = "(0-" + most + ")";
        String[] holding = {
            "999*999+999+999=" + most + "-1", "999*999+999+999<" + most, "999*999+999+999+1=" + most,
            "999*999+999+999+2=" + most, "999*999+999+999+999=" + most, most + "+" + most + "=" + most,
            most + "+1-1=" + most + "-1", most + "-(0-1)=" + most, most + "-" + least + "=" + most,
            "0-999*999-999-999=" + least + "+1", "0-999*999-999-999>" + least, "0-999*999-999-999-1=" + least,
            "0-999*999-999-999-2=" + least, least + "-" + most + "=" + least, least + "-1+1=" + least + "+1",
            least + "+" + least + "=" + least, least + "+(0-1)=" + least,
            "(999+1)*(999+1)=" + most, "(999+1)*(999+2)=" + most, "999*(999+1)<" + most, "999*(999+1)=999*999+999",
            "(0-999-1)*(999+1)=" + least, "(0-999-1)*(999+2)=" + least, "(0-999)*(999+1)=" + least + "+999+1",
            "(0-999-1)*(0-999-2)=" + most, most + "*(" + most + ")=" + most, least + "*" + least + "=" + most,
            least + "*(" + most + ")=" + least, most + "*2*0=0", most + "*999*999*999=" + most, least + "*999*999=" + least,
            most + "*2-" + most + "=0", most + "*(0-1)=" + least};
        for (String law : holding) {
            law(law, true);
        }
        law(most + "+1>" + most, false);
        law(least + "-1<" + least, false);
        law(most + "*2>" + most, false);
    }

    private static void nightModuloThousand() {
        Bounds.says("night: NIGHTS gone by (0 at first), modulo 1,000");
        InsultRow x = Bounds.of("guild;guild;may night=999 or night=0;answers night=0;");
        Bounds.due("0 at first", x.may(0, 1) ? 1 : 0, 1);
        for (int i = 0; i < 16; i++) {
            x.nights(60);
        }
        x.nights(38);
        Bounds.due("998", x.mock(0, 1), -2);
        x.nights(1);
        Bounds.due("999", x.mock(0, 1), 1);
        Bounds.due("tomorrow of 999", x.tomorrow(1), NONE);
        Bounds.due("in one night", x.mocksIn(1, 1), NONE);
        Bounds.due("in two nights", x.mocksIn(1, 2), 0);
        Bounds.due("ever in one night", x.ever(0, 1), 0);
        Bounds.due("ever in two nights", x.ever(0, 2), 2);
        x.nights(1);
        Bounds.due("count(4) is not cut", x.count(4), 1000);
        Bounds.due("1,000 is 0", x.may(0, 1) ? 1 : 0, 1);
        Bounds.due("tomorrow of 1,000", x.tomorrow(1), 0);
        x.nights(1);
        Bounds.due("1,001 is 1", x.may(0, 1) ? 1 : 0, 0);
        Bounds.due("one answered", x.guild(1, 0), 0);
        x.undo(2);
        Bounds.due("undone to 999", x.count(4), 999);
        Bounds.due("one doesn't mock yet", x.guild(1, 0), NONE);
    }

    private static void withoutLaws() {
        Bounds.says("if the law may holds (without one: always)");
        InsultRow x = Bounds.of("guild;guild;mocks 0 1;answers 1=2;");
        Bounds.due("may(0, 1)", x.may(0, 1) ? 1 : 0, 1);
        Bounds.due("may(1, 0)", x.may(1, 0) ? 1 : 0, 1);
        Bounds.due("count(8)", x.count(8), 0);
        Bounds.due("count(9)", x.count(9), 1);
        Bounds.says("if the law answers holds (without one: nobody does)");
        Bounds.tell(x, "guild;guild;mocks 0 1;may 1=1;");
        Bounds.due("tomorrow(1)", x.tomorrow(1), NONE);
        Bounds.due("nights(60)", x.nights(60), 0);
        Bounds.due("mocksIn(1, 1000)", x.mocksIn(1, 1000), NONE);
        Bounds.due("count(8)", x.count(8), 1);
        Bounds.due("count(9)", x.count(9), 0);
    }

    private static void laterLaws() {
        Bounds.says("LINE: may TRUTH, answers TRUTH, told more than once");
        InsultRow x = Bounds.of("guild;guild;mocks 0 1;may 1=2;answers 1=2;may 1=1;answers 1=1;");
        Bounds.due("may(0, 1)", x.may(0, 1) ? 1 : 0, 1);
        Bounds.due("tomorrow(1)", x.tomorrow(1), 0);
        Bounds.due("lines", x.count(0), 7);
    }
}
