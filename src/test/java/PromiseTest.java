import java.util.NoSuchElementException;
import java.util.function.LongSupplier;

/** For each promise of the document: ordinary inputs, the edges it names, and wrong inputs. */
public final class PromiseTest {
    private static int wrong = 0;
    private static int promise = 0;

    private static final int NONE = -1;
    private static final Class<?> ARGUMENT = IllegalArgumentException.class;
    private static final Class<?> STATE = IllegalStateException.class;
    private static final Class<?> NO_SUCH = NoSuchElementException.class;
    private static final Class<?> INDEX = IndexOutOfBoundsException.class;

    /** 0 and 1 a ring, 2 mocks 1, 3 mocks 2, 4 mocks none. */
    private static final String FIVE = "guild rank 5 long 2 loud 3;guild long 3 verse 2 melts 4;guild rank 9 loud 1 verse 4;"
            + "guild;guild loud 2;mocks 0 1;mocks 1 0;mocks 2 1;mocks 3 2;answers rb>ra;"
            + "street east 4;street north 2;street west 3;";
    private static final String TEN = "guild;guild;guild;guild;guild;guild;guild;guild;guild;guild;";

    public static void main(String[] args) {
        p1NewObject();
        p2Feed();
        p3Carnival();
        p3Faults();
        p3FaultsOfLaws();
        p3Limits();
        p4Fault();
        p5Guild();
        p6May();
        p6Laws();
        p7Tomorrow();
        p8Step();
        p9Mock();
        p10Spare();
        p11Rank();
        p12Nights();
        p13Undo();
        p14Judge();
        p15Perform();
        p16Week();
        p17Ringed();
        p18Rings();
        p19Cakes();
        p20Chains();
        p21Walks();
        p22Place();
        p23Length();
        p24Persuaded();
        p25Peace();
        p26Goat();
        p27Below();
        p28CakesOf();
        p29ChainOf();
        p30Longest();
        p31FreeFor();
        p32At();
        p33Arrives();
        p34Meets();
        p35Bows();
        p36Melted();
        p37Noise();
        p38Quietest();
        p39ComesBack();
        p40MocksIn();
        p41Seen();
        p42Ever();
        p43Fewest();
        p44Tray();
        p45Write();
        p46Copy();
        p47Image();
        p48Restore();
        p49Count();
        if (wrong != 0) {
            System.out.println(wrong + " answers of PromiseTest are not as due");
            System.exit(1);
        }
    }

    private static void due(String what, long got, long want) {
        if (got != want) {
            wrong++;
            System.out.println("promise " + promise + ": " + what + " answered " + got + ", due is " + want);
        }
    }

    private static void fails(String what, Class<?> want, LongSupplier call) {
        String got;
        try {
            got = Long.toString(call.getAsLong());
        } catch (RuntimeException e) {
            if (e.getClass() == want) {
                return;
            }
            got = e.getClass().getName();
        }
        wrong++;
        System.out.println("promise " + promise + ": " + what + " answered " + got + ", due is " + want.getName());
    }

    private static void feed(InsultRow x, String text) {
        for (int from = 0; from < text.length(); from += 20) {
            int[] five = new int[5];
            for (int i = 0; i < 20; i++) {
                int sign = from + i < text.length() ? text.charAt(from + i) : ' ';
                five[i / 4] = five[i / 4] << 8 | sign & 255;
            }
            x.feed(five[0], five[1], five[2], five[3], five[4]);
        }
    }

    private static int tell(InsultRow x, String text) {
        feed(x, text);
        return x.carnival(text.length());
    }

    private static InsultRow of(String text) {
        InsultRow x = new InsultRow();
        int lines = tell(x, text);
        if (lines < 0) {
            wrong++;
            System.out.println("promise " + promise + ": fault " + x.fault(0) + " at " + x.fault(1) + " of " + text);
        }
        return x;
    }

    private static void put(InsultRow x, int tray, int sort, long... numbers) {
        x.tray(tray, sort, numbers.length);
        for (int i = 0; i < numbers.length; i++) {
            x.write(tray, i, numbers[i]);
        }
    }

    private static void dueRow(String what, InsultRow x, int... row) {
        for (int k = 0; k < row.length; k++) {
            due(what + ", walks(" + k + ")", x.walks(k), row[k]);
        }
        due(what + ", walks behind all", x.walks(row.length), NONE);
    }

    /** A text that broke off deep within a law must leave nothing behind. */
    private static InsultRow afterFault() {
        InsultRow x = new InsultRow();
        tell(x, "guild;guild;mocks 0 1;street east 1;street east 1;may 1=1;answers not [1=1 and 2=(3*(4+");
        return x;
    }

    private static void faulty(String text, int kind, int place) {
        InsultRow x = afterFault();
        due("carnival of '" + text + "'", tell(x, text), -10 - kind);
        due("fault(0) of '" + text + "'", x.fault(0), kind);
        due("fault(1) of '" + text + "'", x.fault(1), place);
    }

    private static void fine(String text, int lines) {
        InsultRow x = afterFault();
        due("carnival of '" + text + "'", tell(x, text), lines);
        due("fault(0) of '" + text + "'", x.fault(0), 0);
        due("fault(1) of '" + text + "'", x.fault(1), NONE);
    }

    private static void p1NewObject() {
        promise = 1;
        InsultRow x = new InsultRow();
        due("NONE", InsultRow.NONE, -1);
        int[] counts = {0, 0, 0, 1, 0, 0, 0, 0, 0, 0};
        for (int what = 0; what < counts.length; what++) {
            due("count(" + what + ")", x.count(what), counts[what]);
        }
        for (int tray = 0; tray < 4; tray++) {
            int t = tray;
            fails("copy(" + t + ")", STATE, () -> x.copy(t));
        }
        for (int image = 0; image < 3; image++) {
            int i = image;
            fails("restore(" + i + ")", STATE, () -> { x.restore(i); return 0; });
        }
        fails("guild(0, 0)", NO_SUCH, () -> x.guild(0, 0));
        due("length()", x.length(), 0);
        due("walks(0)", x.walks(0), NONE);
        due("nights(2)", x.nights(2), 0);
        due("goat()", x.goat(), NONE);
    }

    private static void p2Feed() {
        promise = 2;
        InsultRow x = new InsultRow();
        // "guild rank 7;" and blanks, by hand: the highest byte of each int comes first.
        due("feed", x.feed(0x6775696c, 0x64207261, 0x6e6b2037, 0x3b202020, 0x20202020), 20);
        due("carnival(13)", x.carnival(13), 1);
        due("guild(0, 1)", x.guild(0, 1), 7);
        InsultRow y = new InsultRow();
        for (int i = 1; i <= 44; i++) {
            due("feed " + i, y.feed(0x20202020, 0x20202020, 0x0a202020, 0x20202020, 0x20202020), 20 * i);
        }
        due("feed 45", y.feed(0x20202020, 0x20202020, 0x20206775, 0x696c6420, 0x2020203b), 900);
        due("feed 46", y.feed(0x20202020, 0x20202020, 0x20202020, 0x20202020, 0x20202020), NONE);
        due("count(7)", y.count(7), 900);
        due("carnival(900)", y.carnival(900), 1);
        InsultRow z = new InsultRow();
        z.feed(-1, 0x80ffffff, 0, 0, 0);
        due("carnival of high bytes", z.carnival(20), -11);
    }

    private static void p3Carnival() {
        promise = 3;
        InsultRow x = new InsultRow();
        feed(x, "guild;guild;mocks 0 1;guild;");
        fails("carnival(-1)", ARGUMENT, () -> x.carnival(-1));
        fails("carnival(41)", ARGUMENT, () -> x.carnival(41));
        due("count(7) behind the throw", x.count(7), 40);
        due("carnival(22)", x.carnival(22), 3);
        due("count(7)", x.count(7), 0);
        due("count(0)", x.count(0), 3);
        due("count(1)", x.count(1), 2);
        x.nights(3);
        x.spare(0);
        feed(x, "guild rank;");
        due("a fault", x.carnival(11), -12);
        due("the tape is empty behind a fault", x.count(7), 0);
        due("guilds stay", x.count(1), 2);
        due("nights stay", x.count(4), 3);
        due("deeds stay", x.count(6), 2);
        due("who mocks stays", x.guild(0, 0), NONE);
        due("another carnival", tell(x, "guild;may 1=1;"), 2);
        due("nights 0", x.count(4), 0);
        due("no deeds", x.count(6), 0);
        due("guilds", x.count(1), 1);
        due("a law", x.count(8), 1);
        due("the carnival without a text", x.carnival(0), 0);
        due("no guilds", x.count(1), 0);
        due("no law", x.count(8), 0);
        InsultRow y = of("guild rank 8;guild;guild;mocks 0 1;mocks 1 0;mocks 0 2;mocks 0 1;mocks 0 2;");
        due("a later mocks strikes", y.guild(0, 0), 2);
        due("the other mocks stays", y.guild(1, 0), 0);
        tell(y, "guild;guild;");
        due("nobody mocks in the new one", y.count(5), 0);
        due("rank of the new one", y.guild(0, 1), 0);
        due("nor has one mockers", y.guild(0, 6), 0);
        tell(y, "guild;street east 3;answers 1=1;may 1=1;");
        tell(y, "street east 1;");
        due("streets of the new one", y.count(2), 1);
        due("steps of the new one", y.count(3), 2);
        due("laws of the new one", y.count(8) + y.count(9), 0);
        InsultRow z = new InsultRow();
        feed(z, "guild rank 12;");
        due("the text ends within a number", z.carnival(12), -12);
        due("at its length", z.fault(1), 12);
        feed(z, "guild rank 12;");
        due("the text ends within a word", z.carnival(4), -12);
        due("at that word", z.fault(1), 0);
        feed(z, "guild;guild;");
        due("the text ends within a word that is none", z.carnival(10), -12);
        due("at that word", z.fault(1), 6);
        feed(z, "guild; ;");
        due("what lies behind is not read", z.carnival(7), 1);
    }

    private static void p3Faults() {
        promise = 3;
        fine("", 0);
        fine(" \n ", 0);
        fine("guild\n;", 1);
        fine("guild rank5long2;", 1);
        fine("guild rank 99 long 9 loud 9 verse 9 melts 99;", 1);
        fine("guild rank 007 rank 0 long 1 loud 0 verse 0 melts 1;", 1);
        fine("street north 20;street east 1;street south 001;street west 9;", 4);
        faulty(";", 2, 0);
        faulty("guild", 2, 5);
        faulty("guild  ", 2, 7);
        faulty("guild;;", 2, 6);
        faulty("guild,", 1, 5);
        faulty("Guild;", 1, 0);
        faulty("guild\t;", 1, 5);
        faulty("guild" + (char) 0 + ";", 1, 5);
        faulty("guild" + (char) 233 + ";", 1, 5);
        faulty("z;", 2, 0);
        faulty("a;", 2, 0);
        faulty("guild rank /;", 1, 11);
        faulty("guild rank :;", 1, 11);
        faulty("guild{", 1, 5);
        faulty("guild`", 1, 5);
        faulty("guild rank", 2, 10);
        faulty("guild rank;", 2, 10);
        faulty("guild rank 100;", 3, 11);
        faulty("guild rank 1000;", 1, 11);
        faulty("guild rank 0001;", 1, 11);
        faulty("guild rank 12345;", 1, 11);
        faulty("guild 1000;", 1, 6);
        faulty("guild rank -1;", 2, 11);
        faulty("guild rank rank;", 2, 11);
        faulty("guild rank 1 2;", 2, 13);
        faulty("guild long 0;", 3, 11);
        faulty("guild long 10;", 3, 11);
        faulty("guild loud 10;", 3, 11);
        faulty("guild verse 10;", 3, 12);
        faulty("guild melts 0;", 3, 12);
        faulty("guild melts 100;", 3, 12);
        faulty("guildrank 5;", 2, 0);
        faulty("guild 5;", 2, 6);
        faulty("guild ra 1;", 2, 6);
        faulty("guild ranks 1;", 2, 6);
        faulty("guild guild;", 2, 6);
        faulty("guild mocks;", 2, 6);
        faulty("guild north 1;", 2, 6);
        faulty("rank 1;", 2, 0);
        faulty("guild wide $;", 2, 6);
        faulty("guild rank 100 $;", 3, 11);
        fine("guild;guild;mocks 0 1;", 3);
        faulty("guild;mocks 0 1;guild;", 3, 14);
        faulty("mocks 0 1;", 3, 6);
        faulty("guild;guild;mocks 2 0;", 3, 18);
        faulty("guild;guild;mocks 0 2;", 3, 20);
        faulty("guild;guild;mocks 0 0;", 3, 20);
        faulty("guild;guild;mocks 1 01;", 3, 20);
        faulty("guild;guild;mocks 0 1", 2, 21);
        faulty("guild;guild;mocks 0 1 1;", 2, 22);
        faulty("guild;guild;mocks 0 ;", 2, 20);
        faulty("guild;guild;mocks ;", 2, 18);
        faulty("guild;guild;mocks 0 1234;", 1, 20);
        faulty("street north 0;", 3, 13);
        faulty("street north 21;", 3, 13);
        faulty("street up 1;", 2, 7);
        faulty("street north;", 2, 12);
        faulty("street 3 north;", 2, 7);
        faulty("street north 1 east;", 2, 15);
        faulty("street or 1;", 2, 7);
        faulty("street melts 1;", 2, 7);
    }

    private static void p3FaultsOfLaws() {
        promise = 3;
        fine("may 1=1;answers 1<2;may 2>1;", 3);
        fine("may 999=999;", 1);
        fine("may not 1=2 and [1=1 or ra*(rb+la-lb)*2<ma+mb*mutual-night];", 1);
        faulty("may;", 2, 3);
        faulty("may", 2, 3);
        faulty("may 1;", 2, 5);
        faulty("may 1=;", 2, 6);
        faulty("may 1=1", 2, 7);
        faulty("may 1=1=1;", 2, 7);
        faulty("may 1<1>1;", 2, 7);
        faulty("may (1=1);", 2, 6);
        faulty("may [1];", 2, 6);
        faulty("may [1=1;", 2, 8);
        faulty("may (1+1;", 2, 8);
        faulty("may 1=(1;", 2, 8);
        faulty("may 1=1];", 2, 7);
        faulty("may 1=1);", 2, 7);
        faulty("may [1=1);", 2, 8);
        faulty("may [1=(1];", 2, 9);
        faulty("may 1=(1 and 1=1);", 2, 9);
        faulty("may [1=1]+1=1;", 2, 9);
        faulty("may [1=1]=1;", 2, 9);
        faulty("may ([1=1]);", 2, 5);
        faulty("may (not 1=1);", 2, 5);
        faulty("may not;", 2, 7);
        faulty("may not and 1=1;", 2, 8);
        faulty("may 1=not 1=1;", 2, 6);
        faulty("may 1=[1=1];", 2, 6);
        faulty("may 1+not 1=1;", 2, 6);
        faulty("may 1=1 and;", 2, 11);
        faulty("may 1=1 or;", 2, 10);
        faulty("may and 1=1;", 2, 4);
        faulty("may 1 and 1=1;", 2, 6);
        faulty("may 1+=1;", 2, 6);
        faulty("may 1*;", 2, 6);
        faulty("may +1=1;", 2, 4);
        faulty("may -1=1;", 2, 4);
        faulty("may 1 1=1;", 2, 6);
        faulty("may ra rb=1;", 2, 7);
        faulty("may ()=1;", 2, 5);
        faulty("may []", 2, 5);
        faulty("may 1=1 not 2=2;", 2, 8);
        faulty("may 1=1 [2=2];", 2, 8);
        faulty("may (1)(1)=1;", 2, 7);
        faulty("may xx=1;", 2, 4);
        faulty("may rank=1;", 2, 4);
        faulty("may rax=1;", 2, 4);
        faulty("may mutua=1;", 2, 4);
        faulty("may 1000=1;", 1, 4);
        faulty("may 1=1 or $;", 1, 11);
        faulty("may 1=1 $;", 1, 8);
        faulty("answers 1;", 2, 9);
        faulty("answers 1=1 guild;", 2, 12);
    }

    private static void p3Limits() {
        promise = 3;
        fine("may ((((((1))))))=1;", 1);
        faulty("may (((((((1)))))))=1;", 4, 10);
        fine("may not not not not not not 1=1;", 1);
        faulty("may not not not not not not not 1=1;", 4, 28);
        fine("may [[[[[[1=1]]]]]];", 1);
        faulty("may [[[[[[[1=1]]]]]]];", 4, 10);
        fine("may not[not[not[1=1]]];", 1);
        faulty("may not[not[not[(1)=1]]];", 4, 16);
        faulty("may [[[[[not(1)=1]]]]];", 4, 12);
        fine("may ((((((1))))))=((((((1))))));", 1);
        fine("may (1)=1 and ((((((1))))))=1;", 1);
        fine("may not 1=1 and not not not not not not 1=1;", 1);
        fine("may not 1=1 or not not not not not not 1=1;", 1);
        fine("may [not 1=1] and [[[[[not 1=1]]]]] or not [[[[[1=1]]]]];", 1);
        faulty("may [not 1=1 and not not not not not (1)=1];", 4, 37);
        faulty("may 1=1 and (((((((1)))))))=1;", 4, 18);
        faulty("may 1+1*1=1 or 1=1 and not not not not not not not 1=1;", 4, 47);
        faulty("may ((((((1(", 2, 11);
        faulty("may ((((((not", 2, 10);
        fine(TEN, 10);
        faulty(TEN + "guild;", 4, 60);
        faulty(TEN + " guild rank", 4, 61);
        faulty(TEN + "guildd", 2, 60);
        String twelve = "street east 20;".repeat(12);
        fine(twelve, 12);
        faulty(twelve + "street up", 4, 180);
        due("steps of the longest way", of(twelve).count(3), 241);
        due("x at its end", of(twelve).step(240, 0), 240);
    }

    private static void p4Fault() {
        promise = 4;
        InsultRow x = new InsultRow();
        due("fault(0) at first", x.fault(0), 0);
        due("fault(1) at first", x.fault(1), NONE);
        tell(x, "guild long 0;");
        due("fault(0)", x.fault(0), 3);
        due("fault(1)", x.fault(1), 11);
        due("fault(2)", x.fault(2), NONE);
        due("fault(-1)", x.fault(-1), NONE);
        fails("carnival(1)", ARGUMENT, () -> x.carnival(1));
        due("fault(0) behind a throw", x.fault(0), 3);
        x.image(0);
        tell(x, "guild;");
        due("fault(0) without", x.fault(0), 0);
        due("fault(1) without", x.fault(1), NONE);
        tell(x, "?");
        x.restore(0);
        due("the fault is not in an image", x.fault(0), 1);
        due("nor its place", x.fault(1), 0);
    }

    private static void p5Guild() {
        promise = 5;
        InsultRow x = of("guild;guild rank 99 long 9 loud 8 verse 7 melts 98;guild rank 1 rank 2 melts 3 melts 4;"
                + "mocks 1 2;mocks 0 2;");
        int[][] want = {{2, 0, 1, 0, 0, 0, 0}, {2, 99, 9, 8, 7, 98, 0}, {NONE, 2, 1, 0, 0, 4, 3}};
        for (int g = 0; g < 3; g++) {
            for (int what = 0; what < 7; what++) {
                due("guild(" + g + ", " + what + ")", x.guild(g, what), want[g][what]);
            }
        }
        fails("guild(3, 0)", NO_SUCH, () -> x.guild(3, 0));
        fails("guild(-1, 0)", NO_SUCH, () -> x.guild(-1, 0));
        fails("guild(3, 7)", NO_SUCH, () -> x.guild(3, 7));
        fails("guild(0, 7)", ARGUMENT, () -> x.guild(0, 7));
        fails("guild(0, -1)", ARGUMENT, () -> x.guild(0, -1));
    }

    private static void p6May() {
        promise = 6;
        InsultRow x = of("guild rank 3;guild rank 7;may ra<rb and mutual=0;");
        due("may(0, 1)", x.may(0, 1) ? 1 : 0, 1);
        due("may(1, 0)", x.may(1, 0) ? 1 : 0, 0);
        fails("may(2, 0)", NO_SUCH, () -> x.may(2, 0) ? 1 : 0);
        fails("may(0, 2)", NO_SUCH, () -> x.may(0, 2) ? 1 : 0);
        fails("may(-1, -1)", NO_SUCH, () -> x.may(-1, -1) ? 1 : 0);
        fails("may(1, 1)", ARGUMENT, () -> x.may(1, 1) ? 1 : 0);
        InsultRow y = of("guild;guild;");
        due("may without a law", y.may(0, 1) ? 1 : 0, 1);
        InsultRow z = of("guild;guild;answers 1=2;may 1=1;may 1=2;");
        due("the later law strikes", z.may(0, 1) ? 1 : 0, 0);
    }

    private static void dueLaw(String law, boolean holds) {
        // 0 and 2 mock 1, 1 mocks 0, 3 mocks 2; five nights have gone by.
        InsultRow x = afterFault();
        due("lines with " + law, tell(x, "guild rank 2 long 3;guild rank 11 long 7;guild;guild;mocks 0 1;mocks 2 1;mocks 1 0;"
                + "mocks 3 2;may " + law + ";"), 9);
        x.nights(5);
        due("may(0, 1) by " + law, x.may(0, 1) ? 1 : 0, holds ? 1 : 0);
    }

    private static void p6Laws() {
        promise = 6;
        String[] holding = {"ra=2", "rb=11", "la=3", "lb=7", "ma=1", "mb=2", "mutual=1", "night=5", "1<2", "2>1", "1=1",
            "2+3*4=14", "(2+3)*4=20", "10-3-2=5", "10-(3-2)=9", "2*3+4*5=26", "2*3*4=24", "1+2-3+4=4", "7-2*3=1",
            "999*999*2=100*100*100", "999*999+999*999=100*100*100", "0-999*999-999*999=0-100*100*100",
            "(0-999)*999*2=0-100*100*100", "100*100*100+1-1=100*100*100-1", "999*999*999*999=100*100*100",
            "0-100*100*100-1+1=1-100*100*100", "100*100*100-1=999*999+999*2", "(0-3)*(0-4)=12", "0-5<0-4",
            "1=1 or 1=1 and 1=2", "1=2 and 1=1 or 1=1", "not 1=1 or 1=1", "not 1=2 and 1=1", "not [1=1 and 1=2]",
            "not not 1=1", "not [not [1=1]]", "1=2 or 2=3 or 3=3", "1=1 and 2=2 and 3=3", "[1=2 or 1=1] and 2=2",
            "ra*rb+la*lb=43", "2=1+1", "4=5-1", "6=2*3", "1<2+3", "9>2*3", "2>1 and 1=1", "1=1 and 2>1 and 1<2", "2>1 or 1=2", "1=1 and [2=2 and [3=3 and not 4=5]]", "001=1"};
        for (String law : holding) {
            dueLaw(law, true);
        }
        String[] failing = {"not 2>1", "not 1<2", "3=1+1", "3=4-2", "7=2*3", "6<2+3", "1>1", "1<1", "2=1", "2<1", "1>2", "[1=1 or 1=1] and 1=2", "1=1 and [1=2 or 1=2]",
            "not 1=1 and 1=1", "not [1=1 or 1=2]", "not not not 1=1", "1=2 or 2=3", "1=1 and 2=3", "mutual=0",
            "100*100*100>999*999*2"};
        for (String law : failing) {
            dueLaw(law, false);
        }
        InsultRow x = of("guild;guild;may night=999;");
        for (int i = 0; i < 16; i++) {
            x.nights(60);
        }
        x.nights(39);
        due("night 999", x.may(0, 1) ? 1 : 0, 1);
        tell(x, "guild;guild;may night=1;");
        for (int i = 0; i < 16; i++) {
            x.nights(60);
        }
        x.nights(41);
        due("night 1,001 is 1 there", x.may(0, 1) ? 1 : 0, 1);
        due("count(4)", x.count(4), 1001);
    }

    private static void p7Tomorrow() {
        promise = 7;
        InsultRow x = of(FIVE);
        due("tomorrow(1): the least mocker is 0", x.tomorrow(1), 0);
        due("tomorrow(2): 3 has not the higher rank", x.tomorrow(2), 1);
        due("tomorrow(4): no mockers", x.tomorrow(4), NONE);
        x.rank(3, 10);
        due("tomorrow(2): 3 has the higher rank", x.tomorrow(2), 3);
        due("nothing happens", x.guild(2, 0), 1);
        fails("tomorrow(5)", NO_SUCH, () -> x.tomorrow(5));
        fails("tomorrow(-1)", NO_SUCH, () -> x.tomorrow(-1));
        due("nobody answers without a law", of("guild;guild;mocks 0 1;").tomorrow(1), NONE);
        due("may does not bind answers", of("guild;guild;mocks 0 1;answers 1=1;may 1=2;").tomorrow(1), 0);
        due("nor does may make them", of("guild;guild;mocks 0 1;may 1=1;").tomorrow(1), NONE);
        // 2 and 1 mock 0: the least of them is asked, and it is mutual.
        InsultRow y = of("guild;guild;guild rank 9;mocks 2 0;mocks 1 0;answers mutual=1 and rb=9;");
        due("the law is asked of the least mocker alone", y.tomorrow(0), NONE);
        y.rank(1, 9);
        due("the least mocker", y.tomorrow(0), 1);
    }

    private static void p8Step() {
        promise = 8;
        InsultRow x = of("street east 2;street north 3;street west 4;street south 5;");
        int[][] want = {{0, 0}, {1, 0}, {2, 0}, {2, 1}, {2, 2}, {2, 3}, {1, 3}, {0, 3}, {-1, 3}, {-2, 3},
            {-2, 2}, {-2, 1}, {-2, 0}, {-2, -1}, {-2, -2}};
        for (int k = 0; k < want.length; k++) {
            due("step(" + k + ", 0)", x.step(k, 0), want[k][0]);
            due("step(" + k + ", 1)", x.step(k, 1), want[k][1]);
        }
        fails("step(15, 0)", NO_SUCH, () -> x.step(15, 0));
        fails("step(-1, 0)", NO_SUCH, () -> x.step(-1, 0));
        fails("step(15, 2)", NO_SUCH, () -> x.step(15, 2));
        fails("step(0, 2)", ARGUMENT, () -> x.step(0, 2));
        fails("step(0, -1)", ARGUMENT, () -> x.step(0, -1));
        InsultRow y = new InsultRow();
        due("step(0, 1) without streets", y.step(0, 1), 0);
        fails("step(1, 0) without streets", NO_SUCH, () -> y.step(1, 0));
    }

    private static void p9Mock() {
        promise = 9;
        InsultRow x = of("guild rank 3;guild rank 7;guild;may ra<rb or rb=0;");
        due("mock(0, 1)", x.mock(0, 1), 1);
        due("guild(0, 0)", x.guild(0, 0), 1);
        due("mock(2, 1)", x.mock(2, 1), 2);
        due("mock(1, 0)", x.mock(1, 0), -2);
        due("nothing happens", x.guild(1, 0), NONE);
        due("mock(0, 0)", x.mock(0, 0), -1);
        due("mock(0, 3)", x.mock(0, 3), -1);
        due("mock(3, 0)", x.mock(3, 0), -1);
        due("mock(-1, 0)", x.mock(-1, 0), -1);
        due("mock(0, -1)", x.mock(0, -1), -1);
        due("deeds", x.count(6), 2);
        due("mock(0, 2) instead", x.mock(0, 2), 1);
        due("1 has one less", x.guild(1, 6), 4);
        due("mock(0, 2) again", x.mock(0, 2), 1);
        due("that is a deed too", x.count(6), 4);
    }

    private static void p10Spare() {
        promise = 10;
        InsultRow x = of(FIVE);
        due("spare(2)", x.spare(2), 1);
        due("guild(2, 0)", x.guild(2, 0), NONE);
        due("guild(1, 6)", x.guild(1, 6), 1);
        due("spare(2) again", x.spare(2), NONE);
        due("both are deeds", x.count(6), 2);
        fails("spare(5)", NO_SUCH, () -> x.spare(5));
        fails("spare(-1)", NO_SUCH, () -> x.spare(-1));
        due("no deed more", x.count(6), 2);
    }

    private static void p11Rank() {
        promise = 11;
        InsultRow x = of(FIVE);
        due("rank(0, 99)", x.rank(0, 99), 5);
        due("rank(0, 0)", x.rank(0, 0), 99);
        due("guild(0, 1)", x.guild(0, 1), 0);
        due("the others stay", x.guild(2, 1), 9);
        fails("rank(0, 100)", ARGUMENT, () -> x.rank(0, 100));
        fails("rank(0, -1)", ARGUMENT, () -> x.rank(0, -1));
        fails("rank(5, 100)", NO_SUCH, () -> x.rank(5, 100));
        fails("rank(-1, 1)", NO_SUCH, () -> x.rank(-1, 1));
        due("deeds", x.count(6), 2);
        due("undo(1)", x.undo(1), 1);
        due("as it was", x.guild(0, 1), 99);
    }

    private static void p12Nights() {
        promise = 12;
        InsultRow x = of(FIVE);
        due("nothing changes by rank", x.nights(1), 0);
        due("count(4)", x.count(4), 1);
        x.rank(3, 99);
        due("2 answers 3", x.nights(1), 1);
        due("guild(2, 0)", x.guild(2, 0), 3);
        due("nights(60)", x.nights(60), 0);
        due("count(4)", x.count(4), 62);
        due("one deed a call", x.count(6), 4);
        fails("nights(0)", ARGUMENT, () -> x.nights(0));
        fails("nights(61)", ARGUMENT, () -> x.nights(61));
        fails("nights(-1)", ARGUMENT, () -> x.nights(-1));
        // All at once: 0 mocks 1 mocks 2; 1 answers 0, 2 answers 1, though 1 has turned away.
        InsultRow y = of("guild;guild;guild;mocks 0 1;mocks 1 2;answers 1=1;");
        due("all at once", y.nights(1), 2);
        due("guild(1, 0)", y.guild(1, 0), 0);
        due("guild(2, 0)", y.guild(2, 0), 1);
        // What changes and changes back is not otherwise than ahead of the nights.
        InsultRow z = of("guild;guild;guild rank 1;mocks 2 0;mocks 0 1;mocks 1 2;answers night=0 or rb=1 and night=1;");
        due("the first night", z.nights(1), 3);
        z.undo(1);
        due("two nights at once", z.nights(2), 2);
        // The law sees the nights gone by as they are ahead of the night.
        InsultRow w = of("guild;guild;mocks 0 1;answers night=1;");
        due("night 0", w.nights(1), 0);
        due("night 1", w.nights(1), 1);
    }

    private static void p13Undo() {
        promise = 13;
        InsultRow x = of(FIVE);
        fails("undo(1) without deeds", ARGUMENT, () -> x.undo(1));
        x.mock(4, 3);
        x.spare(0);
        x.rank(1, 50);
        x.rank(3, 99);
        x.nights(2);
        due("count(6)", x.count(6), 5);
        fails("undo(6)", ARGUMENT, () -> x.undo(6));
        fails("undo(0)", ARGUMENT, () -> x.undo(0));
        fails("undo(-1)", ARGUMENT, () -> x.undo(-1));
        due("nights are gone by", x.count(4), 2);
        due("undo(1)", x.undo(1), 4);
        due("nights are back", x.count(4), 0);
        due("and who mocks whom", x.guild(2, 0), 1);
        due("the rank is still bought", x.guild(3, 1), 99);
        due("undo(3)", x.undo(3), 1);
        due("rank of 1", x.guild(1, 1), 0);
        due("0 mocks again", x.guild(0, 0), 1);
        due("mockers too", x.guild(1, 6), 5);
        due("4 still mocks", x.guild(4, 0), 3);
        due("undo(1)", x.undo(1), 0);
        due("4 mocks none", x.guild(4, 0), NONE);
        for (int i = 0; i < 13; i++) {
            x.rank(0, 20 + i);
        }
        due("10 at most", x.count(6), 10);
        fails("undo(11)", ARGUMENT, () -> x.undo(11));
        due("undo(10)", x.undo(10), 0);
        due("the eldest are forgotten", x.guild(0, 1), 22);
        for (int i = 0; i < 25; i++) {
            x.rank(0, 20 + i);
        }
        for (int i = 0; i < 10; i++) {
            due("one by one, deeds", x.undo(1), 9 - i);
            due("one by one, rank", x.guild(0, 1), 43 - i);
        }
    }

    private static void p14Judge() {
        promise = 14;
        InsultRow x = of(FIVE);
        fails("judge of a missing tray", STATE, () -> x.judge(0, 9));
        fails("judge(4, 0)", NO_SUCH, () -> x.judge(4, 0));
        fails("judge(-1, 9)", NO_SUCH, () -> x.judge(-1, 9));
        put(x, 0, 1, 402, 99, -1, 100);
        fails("judge(0, 4)", ARGUMENT, () -> x.judge(0, 4));
        fails("judge(0, -1)", ARGUMENT, () -> x.judge(0, -1));
        due("all can be", x.judge(0, 0), NONE);
        due("why", x.judge(0, 1), 0);
        due("who mock then", x.judge(0, 2), 4);
        due("cakes then", x.judge(0, 3), 1);
        due("nothing is done", x.guild(4, 0), NONE);
        due("no deeds", x.count(6), 0);
        due("no nights", x.count(4), 0);
        long[] cant = {55, 505, 101, 0, 599, 598, 500, -2, -100, 398, 30000, -30000};
        for (long deed : cant) {
            x.write(0, 3, deed);
            due("place of " + deed, x.judge(0, 0), 3);
            due("why of " + deed, x.judge(0, 1), 1);
        }
        x.write(0, 0, 5);
        due("the first place", x.judge(0, 0), 0);
        due("who mock, if nothing could be", x.judge(0, 2), 4);
        put(x, 1, 3, 499, 1L << 40, 102);
        due("a long number", x.judge(1, 0), 1);
        put(x, 1, 3, 99, 199, 299, 100L * Integer.MAX_VALUE, 399);
        due("till one can't be", x.judge(1, 2), 1);
        due("cakes of these", x.judge(1, 3), 0);
        x.tray(2, 0, 0);
        due("an empty tray", x.judge(2, 0), NONE);
        due("why of it", x.judge(2, 1), 0);
        due("cakes as now", x.judge(2, 3), 1);
        InsultRow y = of("guild;guild;guild;may mutual=0 and mb=0 and night=0;");
        put(y, 0, 2, 1, 100);
        due("it may not, as things are then", y.judge(0, 1), 2);
        put(y, 0, 2, 1, 201);
        due("1 is mocked then", y.judge(0, 1), 2);
        put(y, 0, 2, 1, 99, 201, -1, 2);
        due("0 spares it, a night ends all", y.judge(0, 0), 4);
        due("as that law says", y.judge(0, 1), 2);
    }

    private static void p15Perform() {
        promise = 15;
        InsultRow x = of(FIVE);
        fails("perform of a missing tray", STATE, () -> x.perform(3));
        fails("perform(4)", NO_SUCH, () -> x.perform(4));
        fails("perform(-1)", NO_SUCH, () -> x.perform(-1));
        put(x, 1, 1, 402, 99, -1, 55, 199);
        due("perform(1)", x.perform(1), 3);
        due("each a deed", x.count(6), 3);
        due("a night", x.count(4), 1);
        due("guild(4, 0)", x.guild(4, 0), 2);
        due("guild(0, 0)", x.guild(0, 0), NONE);
        due("2 answered nobody", x.guild(2, 0), 1);
        due("1 answered 2", x.guild(1, 0), 2);
        due("undo(1) takes the night back", x.undo(1), 2);
        due("guild(1, 0)", x.guild(1, 0), 0);
        due("undo(1)", x.undo(1), 1);
        due("guild(0, 0)", x.guild(0, 0), 1);
        put(x, 1, 1, 1, 99, 1, 99, 1, 99, 1, 99, 1, 99, 1, 99);
        due("perform(1)", x.perform(1), 12);
        due("10 deeds at most", x.count(6), 10);
        x.tray(1, 0, 0);
        due("an empty tray", x.perform(1), 0);
    }

    private static void p16Week() {
        promise = 16;
        InsultRow x = of(FIVE);
        fails("week(1, 0)", ARGUMENT, () -> x.week(1, 0));
        fails("week(1, 31)", ARGUMENT, () -> x.week(1, 31));
        fails("week(1, -1)", ARGUMENT, () -> x.week(1, -1));
        InsultRow empty = new InsultRow();
        fails("week without guilds", STATE, () -> empty.week(1, 1));
        fails("week without guilds, 31", ARGUMENT, () -> empty.week(1, 31));
        InsultRow one = of("guild;");
        due("one guild: nights and none can be", one.week(5, 30), 30 - mocksOfOne(5));
        for (int seed = -40; seed < 40; seed++) {
            weekByHand(seed * 123456789, 1 + Math.abs(seed) % 30);
        }
    }

    /** How often one guild alone would have to mock itself. */
    private static int mocksOfOne(int seed) {
        int drawn = seed;
        int mocks = 0;
        for (int i = 0; i < 30; i++) {
            drawn = drawn * 1103515245 + 12345;
            int sort = (drawn >>> 16) % 3;
            mocks += sort == 1 ? 1 : 0;
            for (int k = 0; k < new int[] {0, 2, 1}[sort]; k++) {
                drawn = drawn * 1103515245 + 12345;
            }
        }
        return mocks;
    }

    /** The same draws made here, and the deeds done by the other calls. */
    private static void weekByHand(int seed, int times) {
        String text = "guild rank 5;guild;guild rank 9;guild;mocks 0 1;answers rb>ra;may ra<8 or mb=0;";
        InsultRow x = of(text);
        InsultRow y = of(text);
        int drawn = seed;
        int could = 0;
        for (int i = 0; i < times; i++) {
            drawn = drawn * 1103515245 + 12345;
            int sort = (drawn >>> 16) % 3;
            if (sort == 0) {
                y.nights(1);
                could++;
                continue;
            }
            drawn = drawn * 1103515245 + 12345;
            int a = (drawn >>> 16) % 4;
            if (sort == 2) {
                y.spare(a);
                could++;
                continue;
            }
            drawn = drawn * 1103515245 + 12345;
            if (y.mock(a, (drawn >>> 16) % 4) > 0) {
                could++;
            }
        }
        String what = "week(" + seed + ", " + times + ")";
        due(what, x.week(seed, times), could);
        for (int g = 0; g < 4; g++) {
            due(what + ", then guild " + g, x.guild(g, 0), y.guild(g, 0));
        }
        due(what + ", nights", x.count(4), y.count(4));
        due(what + ", deeds", x.count(6), y.count(6));
        if (y.count(6) > 0) {
            x.undo(1);
            y.undo(1);
            due(what + ", undone", x.guild(1, 6), y.guild(1, 6));
        }
    }

    private static void p17Ringed() {
        promise = 17;
        due("FIVE", of(FIVE).ringed(), 3);
        due("no guilds", new InsultRow().ringed(), 0);
        due("a line", of("guild;guild;guild;mocks 0 1;mocks 1 2;").ringed(), 0);
        due("a ring of three with a tail", of("guild;guild;guild;guild;guild;mocks 4 0;mocks 0 3;mocks 3 1;mocks 1 4;mocks 2 1;")
                .ringed(), 27);
        due("all ten", of(TEN + "mocks 0 1;mocks 1 2;mocks 2 3;mocks 3 4;mocks 4 5;mocks 5 6;mocks 6 7;mocks 7 8;mocks 8 9;mocks 9 0;")
                .ringed(), 1023);
    }

    private static void p18Rings() {
        promise = 18;
        InsultRow x = of(TEN + "mocks 0 1;mocks 1 0;mocks 2 3;mocks 3 2;mocks 4 3;mocks 5 6;mocks 6 7;mocks 7 5;mocks 8 4;");
        due("rings(false)", x.rings(false), 3);
        due("rings(true)", x.rings(true), 2);
        x.mock(9, 5);
        due("rings(false) of open ones too", x.rings(false), 3);
        due("rings(true)", x.rings(true), 1);
        x.spare(1);
        due("rings(false)", x.rings(false), 2);
        due("rings(true)", x.rings(true), 0);
        due("no guilds", new InsultRow().rings(false), 0);
    }

    /** An open ring whose least guild has no mockers from outside: 1, 2, 4; 3 and 0 mock 4, 5 mocks 2. */
    private static InsultRow openRing() {
        return of("guild;guild long 2;guild;guild long 3;guild;guild;"
                + "mocks 1 2;mocks 2 4;mocks 4 1;mocks 3 4;mocks 0 4;mocks 5 2;");
    }

    private static void p19Cakes() {
        promise = 19;
        due("FIVE", of(FIVE).cakes(), 1);
        due("open ring", openRing().cakes(), 3);
        due("shut ring", of("guild;guild;mocks 0 1;mocks 1 0;").cakes(), 1);
        due("a line", of("guild;guild;mocks 0 1;").cakes(), 0);
        due("a star", of("guild;guild;guild;guild;mocks 1 0;mocks 2 0;mocks 3 0;").cakes(), 2);
        due("no guilds", new InsultRow().cakes(), 0);
    }

    private static void p20Chains() {
        promise = 20;
        due("FIVE", of(FIVE).chains(), 2);
        due("open ring", openRing().chains(), 3);
        due("none mock", of(TEN).chains(), 10);
        due("a star", of("guild;guild;guild;guild;mocks 1 0;mocks 2 0;mocks 3 0;").chains(), 3);
        due("no guilds", new InsultRow().chains(), 0);
        InsultRow x = of(FIVE);
        due("once", x.chains(), 2);
        due("and again", x.chains(), 2);
        due("cakes again", x.cakes() + x.cakes(), 2);
        due("length again", x.length() + x.length(), 18);
    }

    private static void p21Walks() {
        promise = 21;
        dueRow("FIVE", of(FIVE), 101, 0, 1, 2, 3, 4);
        // Behind 2, the least of the ring mocked from outside, walks 5; behind 4 the ring's 2; 0 and 3 get cakes.
        dueRow("open ring", openRing(), 104, 0, 102, 1, 4, 2, 5, 104, 3);
        dueRow("shut ring", of("guild;guild;guild;mocks 2 0;mocks 0 1;mocks 1 2;"), 100, 2, 1, 0);
        dueRow("two behind one, the least itself", of("guild;guild;guild;guild;mocks 3 2;mocks 1 2;mocks 0 3;"), 2, 1, 102, 3, 0);
        dueRow("its least guild is mocked from outside", of("guild;guild;guild;guild;mocks 0 1;mocks 1 0;mocks 2 0;mocks 3 1;"),
                100, 1, 0, 2, 101, 3);
        dueRow("the least of two outside", of("guild;guild;guild;guild;mocks 2 3;mocks 3 2;mocks 0 3;mocks 1 3;"),
                103, 1, 103, 2, 3, 0);
        dueRow("ten", of(TEN), 0, 1, 2, 3, 4, 5, 6, 7, 8, 9);
        dueRow("five rings of two", of(TEN + "mocks 0 1;mocks 1 0;mocks 2 3;mocks 3 2;mocks 4 5;mocks 5 4;mocks 6 7;mocks 7 6;"
                + "mocks 8 9;mocks 9 8;"), 100, 1, 0, 102, 3, 2, 104, 5, 4, 106, 7, 6, 108, 9, 8);
        InsultRow x = of(FIVE);
        due("far behind", x.walks(Integer.MAX_VALUE), NONE);
        fails("walks(-1)", ARGUMENT, () -> x.walks(-1));
        fails("walks(least int)", ARGUMENT, () -> x.walks(Integer.MIN_VALUE));
        due("no guilds", new InsultRow().walks(0), NONE);
    }

    private static void p22Place() {
        promise = 22;
        InsultRow x = openRing();
        int[] want = {1, 3, 5, 8, 4, 6};
        for (int g = 0; g < 6; g++) {
            due("place(" + g + ")", x.place(g), want[g]);
        }
        fails("place(6)", NO_SUCH, () -> x.place(6));
        fails("place(-1)", NO_SUCH, () -> x.place(-1));
    }

    private static void p23Length() {
        promise = 23;
        due("FIVE", of(FIVE).length(), 9);
        due("open ring", openRing().length(), 12);
        due("no guilds", new InsultRow().length(), 0);
        due("without cakes", of("guild long 9;guild long 9;mocks 1 0;").length(), 18);
    }

    private static void p24Persuaded() {
        promise = 24;
        InsultRow x = of(FIVE);
        due("how many", x.persuaded(0), 1);
        due("which", x.persuaded(1), 1);
        fails("persuaded(2)", ARGUMENT, () -> x.persuaded(2));
        fails("persuaded(-1)", ARGUMENT, () -> x.persuaded(-1));
        due("a star: all but the last of the mockers", of("guild;guild;guild;guild;mocks 1 0;mocks 2 0;mocks 3 0;").persuaded(1), 6);
        due("nobody mocks: all but one", of("guild;guild;guild;").persuaded(1), 3);
        due("how many of them", of("guild;guild;guild;").persuaded(0), 2);
        due("all in one already", of("guild;guild;guild;mocks 2 1;mocks 1 0;").persuaded(0), 0);
        due("a shut ring: one is enough", of("guild;guild;guild;mocks 2 0;mocks 0 1;mocks 1 2;").persuaded(1), 1);
        due("two shut rings", of("guild;guild;guild;guild;mocks 2 0;mocks 0 2;mocks 1 3;mocks 3 1;").persuaded(1), 3);
        due("a law aside", of("guild;guild;may 1=2;").persuaded(0), 1);
        due("no guilds", new InsultRow().persuaded(0), 0);
        due("ten alone", of(TEN).persuaded(0), 9);
        due("which of ten", of(TEN).persuaded(1), 511);
        due("open ring", openRing().persuaded(0), 3);
        due("which of it", openRing().persuaded(1), 7);
    }

    private static void p25Peace() {
        promise = 25;
        InsultRow x = of(TEN + "mocks 0 1;mocks 1 0;mocks 2 3;mocks 3 2;mocks 4 3;mocks 5 7;mocks 7 6;mocks 6 5;mocks 8 4;");
        due("how many", x.peace(0), 3);
        due("which", x.peace(1), 1 + 4 + 32);
        fails("peace(2)", ARGUMENT, () -> x.peace(2));
        fails("peace(-1)", ARGUMENT, () -> x.peace(-1));
        due("no rings", of("guild;guild;mocks 0 1;").peace(1), 0);
        due("no guilds", new InsultRow().peace(0), 0);
        due("open ring", openRing().peace(1), 2);
    }

    private static void p26Goat() {
        promise = 26;
        due("FIVE", of(FIVE).goat(), 1);
        due("open ring", openRing().goat(), 4);
        due("the first", of("guild;guild;guild;mocks 0 2;mocks 2 1;").goat(), 1);
        due("the very first", of("guild;guild;guild;mocks 1 0;mocks 0 2;").goat(), 0);
        due("nobody mocks", of(TEN).goat(), NONE);
        due("no guilds", new InsultRow().goat(), NONE);
    }

    private static void p27Below() {
        promise = 27;
        InsultRow x = of(FIVE);
        int[] want = {1, 1, 2, 3, 0};
        for (int g = 0; g < 5; g++) {
            due("below(" + g + ")", x.below(g), want[g]);
        }
        fails("below(5)", NO_SUCH, () -> x.below(5));
        fails("below(-1)", NO_SUCH, () -> x.below(-1));
        InsultRow line = of(TEN + "mocks 0 1;mocks 1 2;mocks 2 3;mocks 3 4;mocks 4 5;mocks 5 6;mocks 6 7;mocks 7 8;mocks 8 9;");
        due("a line of ten", line.below(0), 9);
        line.mock(9, 0);
        due("a ring of ten", line.below(4), 9);
    }

    private static void p28CakesOf() {
        promise = 28;
        InsultRow x = openRing();
        int[] want = {0, 0, 1, 0, 2, 0};
        for (int g = 0; g < 6; g++) {
            due("cakesOf(" + g + ")", x.cakesOf(g), want[g]);
        }
        due("the least of a shut ring", of("guild;guild;mocks 0 1;mocks 1 0;").cakesOf(0), 1);
        due("the other of it", of("guild;guild;mocks 0 1;mocks 1 0;").cakesOf(1), 0);
        fails("cakesOf(6)", NO_SUCH, () -> x.cakesOf(6));
        fails("cakesOf(-1)", NO_SUCH, () -> x.cakesOf(-1));
    }

    private static void p29ChainOf() {
        promise = 29;
        InsultRow x = openRing();
        int[] want = {1, 4, 4, 1, 4, 4};
        for (int g = 0; g < 6; g++) {
            due("chainOf(" + g + ")", x.chainOf(g), want[g]);
        }
        fails("chainOf(6)", NO_SUCH, () -> x.chainOf(6));
        fails("chainOf(-1)", NO_SUCH, () -> x.chainOf(-1));
    }

    private static void p30Longest() {
        promise = 30;
        due("open ring", openRing().longest(), 4);
        due("FIVE", of(FIVE).longest(), 4);
        due("none mock", of(TEN).longest(), 1);
        due("no guilds", new InsultRow().longest(), 0);
        due("the later one", of("guild;guild;guild;mocks 2 1;").longest(), 2);
        due("one alone", of("guild;").longest(), 1);
    }

    private static void p31FreeFor() {
        promise = 31;
        InsultRow x = of(FIVE);
        due("freeFor(4)", x.freeFor(4), 8);
        due("freeFor(0)", x.freeFor(0), 30);
        due("nothing happens", x.guild(4, 0), NONE);
        fails("freeFor(5)", NO_SUCH, () -> x.freeFor(5));
        fails("freeFor(-1)", NO_SUCH, () -> x.freeFor(-1));
        InsultRow y = of("guild rank 3;guild rank 7;guild rank 5;may ra<rb;");
        due("who may, freeFor(0)", y.freeFor(0), 6);
        due("who may, freeFor(1)", y.freeFor(1), 0);
        y.mock(0, 1);
        due("that which it mocks, too", y.freeFor(0), 6);
        due("another cake of 1", y.freeFor(2), 0);
        due("the first one, too", of("guild;guild;").freeFor(1), 1);
    }

    private static void p32At() {
        promise = 32;
        InsultRow x = of(FIVE);
        due("at(0, 0)", x.at(0, 0), NONE);
        due("at(0, 1): behind a cake", x.at(0, 1), 0);
        due("at(1, 2)", x.at(1, 2), NONE);
        due("at(1, 3)", x.at(1, 3), 0);
        due("at(4, 8)", x.at(4, 8), 0);
        due("at(4, 17)", x.at(4, 17), 9);
        due("at(4, 18)", x.at(4, 18), NONE);
        due("at(0, most int)", x.at(0, Integer.MAX_VALUE), NONE);
        fails("at(0, -1)", ARGUMENT, () -> x.at(0, -1));
        fails("at(5, -1)", NO_SUCH, () -> x.at(5, -1));
        fails("at(-1, 0)", NO_SUCH, () -> x.at(-1, 0));
        due("without streets", of("guild;").at(0, 0), 0);
        due("without streets, gone", of("guild;").at(0, 1), NONE);
    }

    private static void p33Arrives() {
        promise = 33;
        InsultRow x = of(FIVE);
        int[] want = {11, 13, 16, 17, 18};
        for (int g = 0; g < 5; g++) {
            due("arrives(" + g + ")", x.arrives(g), want[g]);
        }
        fails("arrives(5)", NO_SUCH, () -> x.arrives(5));
        fails("arrives(-1)", NO_SUCH, () -> x.arrives(-1));
        due("without streets", of("guild;").arrives(0), 1);
    }

    private static void p34Meets() {
        promise = 34;
        InsultRow x = of("guild long 3;guild;street east 2;street north 1;street west 2;mocks 1 0;");
        due("next to one another", x.meets(0, 1), 4);
        due("the other way round", x.meets(1, 0), 4);
        fails("meets(0, 0)", ARGUMENT, () -> x.meets(0, 0));
        fails("meets(2, 2)", NO_SUCH, () -> x.meets(2, 2));
        fails("meets(0, 2)", NO_SUCH, () -> x.meets(0, 2));
        fails("meets(-1, 0)", NO_SUCH, () -> x.meets(-1, 0));
        // 4 apart there and back again: in one place when the turn lies in the middle.
        due("in one place", of("guild long 4;guild;street east 5;street west 5;").meets(0, 1), 7);
        due("3 apart, next to one another", of("guild long 3;guild;street east 5;street west 5;").meets(0, 1), 6);
        due("2 apart is too near", of("guild long 2;guild;street east 5;street west 5;").meets(0, 1), NONE);
        due("1 apart is too near", of("guild;guild;street east 5;street west 5;").meets(0, 1), NONE);
        due("on the way straight on", of("guild long 3;guild;street east 9;").meets(0, 1), NONE);
        due("not both: a corner between", of("guild long 4;guild;street north 1;street east 2;street south 2;").meets(0, 1), NONE);
        due("both must be on the way", of("guild long 6;guild;street east 2;street north 1;street west 2;").meets(0, 1), NONE);
        due("the first has a cross way", of("guild long 4;guild;street east 1;street north 1;street west 1;street south 1;")
                .meets(0, 1), 4);
        due("along y 1", of("guild long 4;guild;street north 1;street east 5;street west 5;").meets(0, 1), 8);
        due("along y -1", of("guild long 3;guild;street south 1;street west 5;street east 5;").meets(0, 1), 7);
        due("y 1 more", of("guild long 5;guild;street north 2;street east 1;street south 2;").meets(0, 1), 5);
    }

    private static void p35Bows() {
        promise = 35;
        due("one minute", of("guild long 3;guild;street east 2;street north 1;street west 2;mocks 1 0;").bows(), 1);
        due("none", of(FIVE).bows(), 0);
        due("no guilds", new InsultRow().bows(), 0);
        // 0 and 1 are 3 apart, 1 and 2 too, 0 and 2 are 6 apart: minutes 6 and 7 in turn, then 9 and 10.
        InsultRow x = of("guild long 3;guild long 3;guild;street east 5;street west 5;");
        int minutes = 0;
        for (int minute = 0; minute < 60; minute++) {
            boolean met = false;
            for (int g = 0; g < 3; g++) {
                for (int h = 0; h < g; h++) {
                    int i = x.at(g, minute);
                    int j = x.at(h, minute);
                    met |= i >= 0 && j >= 0 && Math.abs(i - j) >= 3 && Math.abs(x.step(i, 0) - x.step(j, 0)) <= 1;
                }
            }
            minutes += met ? 1 : 0;
        }
        due("three guilds", x.bows(), minutes);
        due("that is", minutes, 5);
    }

    private static void p36Melted() {
        promise = 36;
        InsultRow x = of(FIVE);
        due("melted(0, 6)", x.melted(0, 6), 0);
        due("melted(0, 7)", x.melted(0, 7), 2);
        due("melted(9, 999): just as many", x.melted(9, 999), 2);
        due("melted(10, 999)", x.melted(10, 999), 0);
        due("melted(3, 0)", x.melted(3, 0), 0);
        due("melted(999, 999)", x.melted(999, 999), 0);
        due("melted(4, 4)", x.melted(4, 4), 2);
        due("melted(4, 3)", x.melted(4, 3), 0);
        fails("melted(-1, 0)", ARGUMENT, () -> x.melted(-1, 0));
        fails("melted(1000, 0)", ARGUMENT, () -> x.melted(1000, 0));
        fails("melted(0, -1)", ARGUMENT, () -> x.melted(0, -1));
        fails("melted(0, 1000)", ARGUMENT, () -> x.melted(0, 1000));
        due("several", of("guild melts 1;guild melts 2;guild;guild melts 99;").melted(0, 99), 1);
        due("ten", of("guild melts 1;".repeat(10)).melted(0, 9), 511);
        due("no guilds", new InsultRow().melted(0, 9), 0);
    }

    private static void p37Noise() {
        promise = 37;
        due("FIVE", of(FIVE).noise(), 6);
        due("no guilds", new InsultRow().noise(), 0);
        due("none behind a cake", of("guild loud 9 verse 9;guild loud 9 verse 9;guild loud 9 verse 9;mocks 1 0;mocks 2 0;").noise(), 81);
        due("loud of the first, verse of the second", of("guild loud 2 verse 7;guild loud 5 verse 3;mocks 1 0;").noise(), 6);
        due("the first of a chain is behind none", of("guild loud 2 verse 7;guild loud 5 verse 3;").noise(), 0);
        due("chains of two", of("guild loud 9;guild loud 9 verse 2;guild loud 5 verse 9;guild verse 3;mocks 1 0;mocks 3 2;").noise(), 33);
        due("a ring opened", of("guild loud 3 verse 5;guild loud 7 verse 2;guild loud 9 verse 4;mocks 0 1;mocks 1 0;mocks 2 1;").noise(), 34);
        due("a shut ring", of("guild loud 3 verse 5;guild loud 7 verse 2;mocks 0 1;mocks 1 0;").noise(), 35);
        due("three", of("guild loud 2;guild loud 5 verse 3;guild verse 4;mocks 1 0;mocks 2 1;").noise(), 26);
    }

    private static void p38Quietest() {
        promise = 38;
        InsultRow x = of(FIVE);
        int[] want = {1, 2, 0, NONE, NONE, NONE, NONE, NONE};
        due("quietest(7, 0)", x.quietest(7, 0), 0);
        for (int k = 0; k < 8; k++) {
            due("quietest(7, " + (10 + k) + ")", x.quietest(7, 10 + k), want[k]);
        }
        due("an empty set", x.quietest(0, 0), 0);
        due("its first", x.quietest(0, 10), NONE);
        due("one alone", x.quietest(16, 10), 4);
        fails("quietest(32, 0)", ARGUMENT, () -> x.quietest(32, 0));
        fails("quietest(-1, 0)", ARGUMENT, () -> x.quietest(-1, 0));
        fails("quietest(least int, 0)", ARGUMENT, () -> x.quietest(Integer.MIN_VALUE, 0));
        int[] wrongs = {-1, 1, 9, 18};
        for (int what : wrongs) {
            fails("quietest(7, " + what + ")", ARGUMENT, () -> x.quietest(7, what));
        }
        InsultRow y = of(TEN);
        fails("nine", ARGUMENT, () -> y.quietest(511, 0));
        int[] eight = {0, 2, 3, 4, 5, 7, 8, 9};
        for (int k = 0; k < 8; k++) {
            due("eight alike, by numbers, the " + k + "-th", y.quietest(1023 - 2 - 64, 10 + k), eight[k]);
        }
        InsultRow z = of("guild loud 1 verse 1;guild loud 2 verse 2;guild loud 3 verse 3;");
        // By noise: 0 1 2: 2 + 6; 0 2 1: 3 + 6; 1 0 2: 2 + 3; 1 2 0: 6 + 3; 2 0 1: 3 + 2; 2 1 0: 6 + 2.
        due("the least noise", z.quietest(7, 0), 5);
        due("of like ones the first", z.quietest(7, 10), 1);
        due("its second", z.quietest(7, 11), 0);
        due("its third", z.quietest(7, 12), 2);
        due("two of them", z.quietest(6, 0), 6);
        due("an empty set behind another", z.quietest(0, 0), 0);
        InsultRow w = of("guild loud 9;guild verse 9;guild;");
        due("one walks between, its noise", w.quietest(7, 0), 0);
        due("one walks between, the first", w.quietest(7, 10), 0);
        due("one walks between", w.quietest(7, 11), 2);
        due("one walks between, the last", w.quietest(7, 12), 1);
    }

    private static void p39ComesBack() {
        promise = 39;
        InsultRow x = of(FIVE);
        due("at once", x.comesBack(0), 0);
        due("one between", x.comesBack(1), 1);
        x.rank(3, 99);
        due("after one", x.comesBack(0), 1);
        due("one between", x.comesBack(1), 1);
        fails("comesBack(2)", ARGUMENT, () -> x.comesBack(2));
        fails("comesBack(-1)", ARGUMENT, () -> x.comesBack(-1));
        due("no guilds, after", new InsultRow().comesBack(0), 0);
        due("no guilds, between", new InsultRow().comesBack(1), 1);
        // A ring of three turns round each night.
        InsultRow y = of("guild;guild;guild;mocks 0 1;mocks 1 2;mocks 2 0;answers 1=1;");
        due("a turning ring, after", y.comesBack(0), 0);
        due("a turning ring, between", y.comesBack(1), 2);
        due("nothing happens", y.count(4), 0);
        due("0 alone turns", of("guild;guild;mocks 1 0;answers night=0;").comesBack(0), 1);
        due("the last alone turns", of(TEN + "mocks 0 9;answers night=0;").comesBack(0), 1);
        InsultRow z = of("guild;guild;guild;guild;mocks 0 1;mocks 1 2;mocks 2 0;mocks 3 0;answers ma=1 or rb=0 and night>1;");
        int[][] nights = new int[40][];
        for (int i = 0; i < 40; i++) {
            nights[i] = new int[] {z.mocksIn(0, i), z.mocksIn(1, i), z.mocksIn(2, i), z.mocksIn(3, i)};
        }
        int after = NONE;
        int between = NONE;
        for (int j = 1; j < 40 && after < 0; j++) {
            for (int i = 0; i < j && after < 0; i++) {
                if (java.util.Arrays.equals(nights[i], nights[j])) {
                    after = i;
                    between = j - i;
                }
            }
        }
        due("by the other call, after", z.comesBack(0), after);
        due("by the other call, between", z.comesBack(1), between);
    }

    private static void p40MocksIn() {
        promise = 40;
        InsultRow x = of(FIVE);
        x.rank(3, 99);
        due("mocksIn(2, 0)", x.mocksIn(2, 0), 1);
        due("mocksIn(2, 1)", x.mocksIn(2, 1), 3);
        due("mocksIn(2, 1000)", x.mocksIn(2, 1000), 3);
        due("mocksIn(4, 9)", x.mocksIn(4, 9), NONE);
        fails("mocksIn(0, 1001)", ARGUMENT, () -> x.mocksIn(0, 1001));
        fails("mocksIn(0, -1)", ARGUMENT, () -> x.mocksIn(0, -1));
        fails("mocksIn(5, -1)", NO_SUCH, () -> x.mocksIn(5, -1));
        fails("mocksIn(-1, 0)", NO_SUCH, () -> x.mocksIn(-1, 0));
        due("nothing happens", x.guild(2, 0), 1);
        // The night goes on: only behind 700 of them somebody answers; without a night that says so nobody does.
        InsultRow y = of("guild;guild;mocks 0 1;answers night=700;");
        due("mocksIn(1, 700)", y.mocksIn(1, 700), NONE);
        due("mocksIn(1, 701)", y.mocksIn(1, 701), 0);
        y.nights(60);
        due("mocksIn(1, 640)", y.mocksIn(1, 640), NONE);
        due("mocksIn(1, 641)", y.mocksIn(1, 641), 0);
        InsultRow z = of("guild;guild;guild;mocks 0 1;mocks 1 2;mocks 2 0;answers 1=1;");
        due("round, 999", z.mocksIn(0, 999), 2);
        due("round, 1000", z.mocksIn(0, 1000), 1);
    }

    private static void p41Seen() {
        promise = 41;
        InsultRow x = of(FIVE);
        fails("seen of a missing tray", STATE, () -> x.seen(0));
        fails("seen(4)", NO_SUCH, () -> x.seen(4));
        fails("seen(-1)", NO_SUCH, () -> x.seen(-1));
        x.rank(3, 99);
        put(x, 0, 0, -1, -1, 3, -1, 99);
        due("after a night", x.seen(0), 1);
        put(x, 0, 2, 1, 0, 1, 2, 99);
        due("now", x.seen(0), 0);
        put(x, 0, 3, -1, -1, -1, -1, -1);
        due("nothing was seen", x.seen(0), 0);
        put(x, 0, 3, -1, -1, -1, -1, 0);
        due("never", x.seen(0), NONE);
        put(x, 0, 3, -1, -1, -1, 99, -1);
        due("never none", x.seen(0), NONE);
        put(x, 0, 3, 0, -1, -1, -1, -1);
        due("never itself", x.seen(0), NONE);
        long[] none = {5, 98, 100, -2, 1L << 32, Long.MIN_VALUE};
        for (long number : none) {
            put(x, 0, 3, -1, -1, -1, -1, number);
            fails("seen of " + number, ARGUMENT, () -> x.seen(0));
        }
        put(x, 0, 3, 5, -1, -1, -1, -1);
        fails("at the first place", ARGUMENT, () -> x.seen(0));
        put(x, 0, 3, -1, -1, -1, -1);
        fails("too few", ARGUMENT, () -> x.seen(0));
        put(x, 0, 3, -1, -1, -1, -1, -1, -1);
        fails("too many", ARGUMENT, () -> x.seen(0));
        InsultRow y = of("guild;guild;mocks 0 1;answers night=199;");
        put(y, 0, 0, -1, 0);
        due("by 200 nights", y.seen(0), 200);
        tell(y, "guild;guild;mocks 0 1;answers night=200;");
        due("not by 201", y.seen(0), NONE);
        InsultRow z = new InsultRow();
        z.tray(0, 0, 0);
        due("no guilds", z.seen(0), 0);
    }

    private static void p42Ever() {
        promise = 42;
        InsultRow x = of(FIVE);
        x.rank(3, 99);
        due("ever(3, 0)", x.ever(3, 0), 0);
        due("ever(3, 1)", x.ever(3, 1), 4);
        due("ever(1, 0)", x.ever(1, 0), 5);
        due("ever(1, 1000): 2 did", x.ever(1, 1000), 5);
        fails("ever(0, 1001)", ARGUMENT, () -> x.ever(0, 1001));
        fails("ever(0, -1)", ARGUMENT, () -> x.ever(0, -1));
        fails("ever(5, -1)", NO_SUCH, () -> x.ever(5, -1));
        fails("ever(-1, 0)", NO_SUCH, () -> x.ever(-1, 0));
        InsultRow y = of("guild;guild;mocks 0 1;answers night=999;");
        due("ever(0, 999)", y.ever(0, 999), 0);
        due("ever(0, 1000)", y.ever(0, 1000), 2);
    }

    private static void p43Fewest() {
        promise = 43;
        InsultRow x = of("guild;guild;guild rank 1;mocks 0 1;mocks 2 1;answers night=2 and rb=0;");
        // 1 answers 0 behind the third night: a ring that 2 mocks, with as many cakes as ahead.
        due("fewest(0, 0)", x.fewest(0, 0), 1);
        due("fewest(9, 0)", x.fewest(9, 0), 1);
        due("the first of like ones", x.fewest(9, 1), 0);
        // 1 and 2 mock 0, 3 and 4 mock 2; behind the sixth night 2 answers 3: a ring that 4 mocks.
        String text = "guild;guild;guild;guild rank 1;guild;mocks 1 0;mocks 2 0;mocks 3 2;mocks 4 2;answers rb=1 and night=5;";
        InsultRow y = of(text);
        for (int n = 0; n <= 200; n++) {
            due("fewest(" + n + ", 0)", y.fewest(n, 0), n < 6 ? 2 : 1);
            due("fewest(" + n + ", 1)", y.fewest(n, 1), n < 6 ? 0 : 6);
        }
        y.nights(3);
        due("nights went by, 0", y.fewest(3, 0), 1);
        due("nights went by, 1", y.fewest(3, 1), 3);
        InsultRow z = of(text.replace("night=5", "night=199"));
        due("behind 199", z.fewest(199, 1), 0);
        due("behind 200", z.fewest(200, 1), 200);
        InsultRow w = of("guild;guild;guild;mocks 0 1;mocks 1 2;mocks 2 0;answers night=4 and rb=0;");
        due("nothing happens", w.count(4), 0);
        due("cakes of a ring", w.fewest(200, 0), 1);
        fails("fewest(201, 0)", ARGUMENT, () -> x.fewest(201, 0));
        fails("fewest(-1, 0)", ARGUMENT, () -> x.fewest(-1, 0));
        fails("fewest(0, 2)", ARGUMENT, () -> x.fewest(0, 2));
        fails("fewest(0, -1)", ARGUMENT, () -> x.fewest(0, -1));
        due("no guilds", new InsultRow().fewest(9, 0), 0);
    }

    private static void p44Tray() {
        promise = 44;
        InsultRow x = new InsultRow();
        fails("tray(4, 4, 31)", NO_SUCH, () -> { x.tray(4, 4, 31); return 0; });
        fails("tray(-1, 0, 0)", NO_SUCH, () -> { x.tray(-1, 0, 0); return 0; });
        fails("tray(0, 4, 1)", ARGUMENT, () -> { x.tray(0, 4, 1); return 0; });
        fails("tray(0, -1, 1)", ARGUMENT, () -> { x.tray(0, -1, 1); return 0; });
        fails("tray(0, 0, 31)", ARGUMENT, () -> { x.tray(0, 0, 31); return 0; });
        fails("tray(0, 0, -1)", ARGUMENT, () -> { x.tray(0, 0, -1); return 0; });
        fails("it is still missing", STATE, () -> x.write(0, 0, 1));
        x.tray(0, 0, 30);
        due("the last place", x.write(0, 29, 5), 5);
        fails("behind it", INDEX, () -> x.write(0, 30, 5));
        x.tray(3, 3, 0);
        fails("no places", INDEX, () -> x.write(3, 0, 5));
        InsultRow y = of("guild;guild;mocks 0 1;");
        put(y, 0, 1, 1, 1);
        due("two deeds that can be", y.judge(0, 0), NONE);
        y.tray(0, 1, 2);
        due("0s, which can't be: 0 mocks itself", y.judge(0, 0), 0);
        fails("a throw leaves it", ARGUMENT, () -> { y.tray(0, 9, 1); return 0; });
        due("two places still", y.copy(0), 2);
    }

    private static void p45Write() {
        promise = 45;
        InsultRow x = new InsultRow();
        fails("write(4, 0, 0)", NO_SUCH, () -> x.write(4, 0, 0));
        fails("write(-1, 0, 0)", NO_SUCH, () -> x.write(-1, 0, 0));
        fails("write(0, -1, 0)", STATE, () -> x.write(0, -1, 0));
        long v = 0x123456789abcdef0L;
        long[] cut = {(byte) v, (short) v, (int) v, v};
        long[] most = {127, 32767, Integer.MAX_VALUE, Long.MAX_VALUE};
        for (int sort = 0; sort < 4; sort++) {
            x.tray(0, sort, 3);
            due("cut to sort " + sort, x.write(0, 2, v), cut[sort]);
            due("the most of it", x.write(0, 2, most[sort]), most[sort]);
            due("one more", x.write(0, 2, most[sort] + 1), -most[sort] - 1);
            due("-1", x.write(0, 0, -1), -1);
            fails("write(0, 3, 0)", INDEX, () -> x.write(0, 3, 0));
            fails("write(0, -1, 0)", INDEX, () -> x.write(0, -1, 0));
        }
        InsultRow y = of("guild;guild;mocks 0 1;");
        put(y, 1, 0, 257, 99 + 256);
        due("it is there as it was cut", y.seen(1), 0);
    }

    private static void p46Copy() {
        promise = 46;
        InsultRow x = of(FIVE);
        fails("copy(4)", NO_SUCH, () -> x.copy(4));
        fails("copy(-1)", NO_SUCH, () -> x.copy(-1));
        fails("copy of a missing tray", STATE, () -> x.copy(0));
        x.tray(0, 0, 5);
        due("copy(0)", x.copy(0), 5);
        due("it is seen now", x.seen(0), 0);
        x.spare(3);
        due("and not any more", x.seen(0), NONE);
        x.copy(0);
        due("none is 99", x.seen(0), 0);
        put(x, 1, 0, 7, 7, 7);
        due("fewer places", x.copy(1), 3);
        put(x, 2, 1, -1, -1, -1, -1, -1, -1, 42);
        due("more places", x.copy(2), 5);
        // What lies behind stays: the sixth and seventh are still told deeds, those ahead are 0 mocks ..
        put(x, 2, 1, 0, 0, 0, 0, 0, -1, 42);
        tell(x, "guild;guild;mocks 0 1;");
        x.tray(3, 1, 3);
        x.write(3, 2, 100);
        due("two guilds", x.copy(3), 2);
        due("deeds: 0 mocks 1, 0 mocks none, 1 mocks 0", x.judge(3, 0), NONE);
        due("only 1 mocks then", x.judge(3, 2), 1);
        due("no guilds", copyOfNone(), 0);
    }

    private static int copyOfNone() {
        InsultRow x = new InsultRow();
        x.tray(0, 0, 3);
        return x.copy(0);
    }

    private static void p47Image() {
        promise = 47;
        InsultRow x = of(FIVE);
        fails("image(3)", NO_SUCH, () -> { x.image(3); return 0; });
        fails("image(-1)", NO_SUCH, () -> { x.image(-1); return 0; });
        x.image(2);
        x.spare(0);
        x.image(0);
        x.spare(1);
        x.restore(2);
        due("image 2", x.count(5), 4);
        x.restore(0);
        due("image 0", x.count(5), 3);
        x.spare(1);
        x.image(0);
        x.mock(0, 4);
        x.restore(0);
        due("made anew", x.count(5), 2);
        due("its deeds", x.count(6), 2);
    }

    private static void p48Restore() {
        promise = 48;
        InsultRow x = of(FIVE);
        fails("restore(3)", NO_SUCH, () -> { x.restore(3); return 0; });
        fails("restore(-1)", NO_SUCH, () -> { x.restore(-1); return 0; });
        fails("restore(0)", STATE, () -> { x.restore(0); return 0; });
        x.rank(0, 77);
        x.nights(3);
        x.mock(4, 3);
        x.image(1);
        x.undo(2);
        for (int i = 0; i < 12; i++) {
            x.rank(1, i);
        }
        feed(x, "guild;may 1=1;street north 1;");
        x.carnival(29);
        x.tray(0, 0, 1);
        feed(x, "guild;");
        x.restore(1);
        due("lines", x.count(0), 13);
        due("guilds", x.count(1), 5);
        due("streets", x.count(2), 3);
        due("steps", x.count(3), 10);
        due("nights", x.count(4), 3);
        due("who mock", x.count(5), 5);
        due("deeds", x.count(6), 3);
        due("the tape stays", x.count(7), 20);
        due("laws", x.count(8), 0);
        due("laws", x.count(9), 1);
        due("ranks", x.guild(0, 1), 77);
        due("ranks", x.guild(1, 1), 0);
        due("a tray stays", x.write(0, 0, 1), 1);
        due("undo(1)", x.undo(1), 2);
        due("4 mocks none", x.guild(4, 0), NONE);
        due("undo(2)", x.undo(2), 0);
        due("rank as told", x.guild(0, 1), 5);
        x.restore(1);
        due("once more", x.count(6), 3);
        due("4 mocks again", x.guild(4, 0), 3);
        due("its undone deeds are there too", x.undo(3), 0);
        due("rank as told again", x.guild(0, 1), 5);
    }

    private static void p49Count() {
        promise = 49;
        InsultRow x = of(FIVE);
        x.nights(2);
        x.spare(0);
        feed(x, "guild");
        int[] want = {13, 5, 3, 10, 2, 3, 2, 20, 0, 1};
        for (int what = 0; what < 10; what++) {
            due("count(" + what + ")", x.count(what), want[what]);
        }
        due("count(10)", x.count(10), NONE);
        due("count(-1)", x.count(-1), NONE);
        due("count(8) with the law", of("may 1=1;").count(8), 1);
        due("count(9) without one", of("may 1=1;").count(9), 0);
    }
}
