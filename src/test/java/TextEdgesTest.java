/** The edges of the tape and of the two texts, sentence by sentence: term 1, promises 6 to 10. */
public final class TextEdgesTest {
    private static final int NONE = SoupCargo.NONE;
    private static final Check CHECK = new Check("TextEdgesTest");

    public static void main(String[] args) {
        fedBytes();
        fullTape();
        cutTape();
        textsOfAFullTape();
        emptyTexts();
        lawsRead();
        codeRead();
        faultsTold();
        letters();
        digits();
        blanksAndSigns();
        wrapping();
        dividing();
        comparing();
        firstFault();
        leastFault();
        faultAtTheEnd();
        wrongNumbers();
        manyLines();
        openOnes();
        CHECK.close();
    }

    private static void fedBytes() {
        CHECK.by("Twenty bytes come behind the TAPE, of each number the highest first: how many it has.");
        SoupCargo cargo = new SoupCargo();
        CHECK.due("the first twenty", cargo.feed(0x73776561, 0x74203132, 0x33342a6f, 0x72652d77, 0x65742a39), 20);
        CHECK.due("the next twenty", cargo.feed(0x3939392b, 0x373b2020, 0x20202020, 0x20202020, 0x20202020), 40);
        CHECK.due("laws", cargo.laws(), 1);
        cargo.heap(0, 0, 0, 3, 6);
        CHECK.due("sweat 1234*ore-wet*9999+7", cargo.told(3, NONE, 0, 0, 0), 1234 * 3 - 2 * 9999 + 7);
        SoupCargo signs = new SoupCargo();
        CHECK.due("bytes above 127", signs.feed(0x20202020, 0x20202020, -1, Integer.MIN_VALUE, Integer.MAX_VALUE), 20);
        CHECK.due("laws of them", signs.laws(), NONE);
        CHECK.due("the first of them can't stand there", signs.fault(1), 8);
    }

    private static void fullTape() {
        CHECK.by("NONE, and nothing comes, if there would be more than 600.");
        SoupCargo cargo = new SoupCargo();
        for (int has = 20; has <= 600; has += 20) {
            CHECK.due("feed", Scene.feedBlanks(cargo), has);
        }
        CHECK.due("feed to 620", cargo.feed(0, 0, 0, 0, 0), NONE);
        CHECK.no("nothing came", cargo.end(601));
        CHECK.yes("600 are there", cargo.end(600));
        CHECK.due("they are what they were", cargo.laws(), 0);
        for (int length = 579; length <= 600; length++) {
            SoupCargo part = new SoupCargo();
            Scene.fullTape(part);
            CHECK.yes("end", part.end(length));
            CHECK.due("feed behind " + length, Scene.feedBlanks(part), length <= 580 ? length + 20 : NONE);
            CHECK.no("not more", part.end(length <= 580 ? length + 21 : length + 1));
        }
        CHECK.due("the view that tells that it did something",
            Twins.toldApart(Scene::fullTape, twin -> twin.feed(0x64727920, 0x373b2020, 0, 0, 0)), -1);
    }

    private static void cutTape() {
        CHECK.by("The TAPE has its first n bytes alone: true;");
        for (int n = 0; n <= 40; n++) {
            SoupCargo cargo = new SoupCargo();
            Scene.feedBlanks(cargo);
            Scene.feedBlanks(cargo);
            CHECK.yes("end(" + n + ") of 40", cargo.end(n));
            CHECK.no("it has no more", cargo.end(n + 1));
            CHECK.due("what comes stands behind them", Scene.feedBlanks(cargo), n + 20);
        }
        SoupCargo words = new SoupCargo();
        Check.feed(words, "dry 1; dry 2; dry 3;");
        CHECK.yes("end(13)", words.end(13));
        CHECK.due("two lines are left", words.laws(), 2);
        // what was cut off is not there any more, not even within a word or a number
        cutInto("dry 12345;", 8, 8);
        cutInto("dry 1; dryer", 10, 10);
        cutInto("dry 1 when 1=1;", 5, 5);
        CHECK.by("false, changing nothing, if it has not so many, or n is below 0.");
        for (int n : new int[] {8, 21, 600, 601, Integer.MAX_VALUE, -1, Integer.MIN_VALUE}) {
            SoupCargo cargo = new SoupCargo();
            Check.feed(cargo, "dry 10;");
            CHECK.no("end(" + n + ") of 7", cargo.end(n));
            CHECK.yes("7 are there", cargo.end(7));
            CHECK.due("the text is what it was", cargo.laws(), 1);
        }
        SoupCargo empty = new SoupCargo();
        CHECK.no("end(1) of none", empty.end(1));
        CHECK.no("end(-1) of none", empty.end(-1));
        CHECK.yes("end(0) of none", empty.end(0));
    }

    private static void cutInto(String text, int length, int place) {
        SoupCargo cargo = new SoupCargo();
        Check.feed(cargo, text);
        cargo.end(length);
        CHECK.due("laws of the first " + length + " of " + text, cargo.laws(), NONE);
        CHECK.due("the FAULT is at the end", cargo.fault(0), 1);
        CHECK.due("the end", cargo.fault(1), place);
    }

    private static void textsOfAFullTape() {
        CHECK.by("NONE, and nothing comes, if there would be more than 600.");
        SoupCargo cargo = new SoupCargo();
        cargo.heap(0, 0, 0, 1, 0);
        // as many tokens as can be, again and again
        for (int n = 0; n < 6; n++) {
            String units = "+" + n;
            CHECK.due("a LAW of 600 bytes", Check.laws(cargo, "sweat 1" + units.repeat(296) + ";"), 1);
            CHECK.due("what it comes to", cargo.told(3, NONE, 0, 0, 0), 1 + 296 * n);
        }
        CHECK.lawFault(";".repeat(600), 1, 0);
        CHECK.codeFault("(".repeat(600), 1, 0);
        CHECK.lawFault("x".repeat(600), 1, 0);
        CHECK.lawFault("9".repeat(600), 1, 0);
        CHECK.lawFault("dry 1;" + " ".repeat(592) + "dr", 1, 598);
        CHECK.lawFault("dry 1;" + " ".repeat(591) + "dry", 1, 600);
        CHECK.lawFault("dry " + " ".repeat(592) + "1234", 1, 600);
        CHECK.lawFault("dry " + " ".repeat(591) + "12345", 1, 595);
        CHECK.due("blanks to the end", Check.laws(cargo, "dry 1;" + "\n".repeat(594)), 1);
        CHECK.due("a ; as the last", Check.laws(cargo, " ".repeat(594) + "dry 1;"), 1);
    }

    private static void emptyTexts() {
        CHECK.by("LAWS are a TEXT (empty at first)");
        SoupCargo cargo = new SoupCargo();
        cargo.heap(0, 0, 0, 1, 1);
        CHECK.due("no LAW at first", cargo.told(0, NONE, 0, 0, 0), 0);
        CHECK.due("an empty TAPE is no fault", cargo.laws(), 0);
        CHECK.due("blanks alone are none", Check.laws(cargo, " \n \n"), 0);
        CHECK.by("THE CODE is a TEXT (empty at first)");
        for (int i = 0; i < 12; i++) {
            CHECK.due("nobody may at first", cargo.may(i / 3, i % 3), 0);
        }
        CHECK.due("an empty TAPE is no fault", cargo.code(), 0);
        CHECK.due("blanks alone are none", Check.code(cargo, "\n"), 0);
        SoupCargo emptied = Scene.withLaws("sweat 5;");
        emptied.heap(0, 0, 0, 1, 1);
        CHECK.due("an empty TAPE takes the LAWS away", emptied.laws(), 0);
        CHECK.due("no LAW any more", emptied.told(3, NONE, 0, 0, 0), 0);
        SoupCargo released = Scene.withCode("load 1 when 1=1;");
        CHECK.due("an empty TAPE takes THE CODE away", released.code(), 0);
        CHECK.due("nobody may any more", released.may(1, 0), 0);
        CHECK.due("no way any more", released.let(0, 0), 0);
    }

    private static void lawsRead() {
        CHECK.by("The TAPE, empty then, are the LAWS: how many lines. NONE: a FAULT (they stay as they were).");
        SoupCargo cargo = Scene.withLaws("sweat 5; dry 6;");
        cargo.heap(0, 0, 0, 1, 1);
        CHECK.no("the TAPE is empty", cargo.end(1));
        for (String text : new String[] {"sweat 7; dry 8; down 9; soup", "sweat 7; ?", "sweat 7/0;", "dry 1;".repeat(17)}) {
            CHECK.due("laws of " + text, Check.laws(cargo, text), NONE);
            CHECK.no("the TAPE is empty after a FAULT", cargo.end(1));
            CHECK.due("sweat as it was", cargo.told(3, NONE, 0, 0, 0), 5);
            CHECK.due("dry as it was", cargo.told(1, NONE, 0, 0, 0), 6);
            CHECK.due("down as it was", cargo.told(0, NONE, 0, 0, 0), 0);
        }
        CHECK.due("new ones after FAULTS", Check.laws(cargo, "down 3;"), 1);
        CHECK.due("they are these", cargo.told(0, NONE, 0, 0, 0), 3);
        CHECK.due("and no others", cargo.told(3, NONE, 0, 0, 0), 0);
        CHECK.due("a code is not LAWS", Check.laws(cargo, "load 1 when 1=1;"), NONE);
    }

    private static void codeRead() {
        CHECK.by("The TAPE, empty then, is THE CODE: how many lines. NONE: a FAULT (it stays as it was).");
        SoupCargo cargo = Scene.withCode("load 1 when can=3; test 2 when 1=1;");
        CHECK.no("the TAPE is empty", cargo.end(1));
        int ways = cargo.let(2, 0);
        CHECK.due("ways", ways, 2100);
        for (String text : new String[] {"stop 0 when 1=1; load", "load 0 when 1=1; load 4", "stop 1 when 1=1; #"}) {
            CHECK.due("code of " + text, Check.code(cargo, text), NONE);
            CHECK.no("the TAPE is empty after a FAULT", cargo.end(1));
            CHECK.due("test as it was", cargo.may(2, 2), 1);
            CHECK.due("load as it was", cargo.may(0, 0), 0);
            CHECK.due("stop as it was", cargo.may(1, 1), 0);
            CHECK.due("ways as they were", cargo.let(2, 0), ways);
        }
        CHECK.due("a new one after FAULTS", Check.code(cargo, "stop 3 when 1=1;"), 1);
        CHECK.due("it is this", cargo.may(3, 1), 1);
        CHECK.due("and no other", cargo.may(2, 2), 0);
        CHECK.due("LAWS are no code", Check.code(cargo, "down 1;"), NONE);
    }

    private static void faultsTold() {
        CHECK.by("Of the latest laws() or code(): what 0 the FAULT (0 without one), 1 its place (NONE).");
        SoupCargo cargo = new SoupCargo();
        faultIs("ahead of any", cargo, 0, NONE);
        Check.laws(cargo, "dry 1/0;");
        faultIs("of laws", cargo, 2, 6);
        Check.feed(cargo, "dry 1;");
        faultIs("while the TAPE is fed", cargo, 2, 6);
        cargo.code();
        faultIs("of a later code", cargo, 1, 0);
        cargo.laws();
        faultIs("of later empty laws", cargo, 0, NONE);
        Check.code(cargo, "load 4");
        faultIs("of code", cargo, 2, 5);
        Check.laws(cargo, "dry 1;");
        faultIs("of later good laws", cargo, 0, NONE);
        Check.laws(cargo, "dry 1");
        Check.code(cargo, "load 0 when 1=1;");
        faultIs("of a later good code", cargo, 0, NONE);
    }

    private static void faultIs(String when, SoupCargo cargo, int fault, int place) {
        CHECK.due("fault(0) " + when, cargo.fault(0), fault);
        CHECK.due("fault(1) " + when, cargo.fault(1), place);
        for (int what : new int[] {2, 3, -1, Integer.MIN_VALUE, Integer.MAX_VALUE}) {
            CHECK.due("fault(" + what + ") " + when, cargo.fault(what), NONE);
        }
    }

    private static void good(String text) {
        CHECK.due("lines of " + text, Check.laws(new SoupCargo(), text), 1);
    }

    private static void letters() {
        CHECK.by("TOKENS: letters as many as stand together are KEYWORDS (those told for such a TEXT) or none");
        for (String word : "wet water ore layer sort rain clock shaken lit".split(" ")) {
            good("dry " + word + ";");
            CHECK.lawFault("dry " + word + "s;", 1, 4);
            CHECK.lawFault("dry x" + word + ";", 1, 4);
            CHECK.lawFault("dry " + word.substring(1) + ";", 1, 4);
            CHECK.lawFault("dry " + word.substring(0, word.length() - 1) + ";", 1, 4);
            CHECK.lawFault("dry " + word + word + ";", 1, 4);
            CHECK.lawFault("dry " + word.toUpperCase() + ";", 1, 4);
            if (!word.equals("rain")) {
                CHECK.codeFault("load 0 when " + word + "=1;", 1, 12);
            }
        }
        for (String word : "said can age rain day loaded swell port".split(" ")) {
            CHECK.due("code", Check.code(new SoupCargo(), "load 0 when " + word + "=1;"), 1);
            CHECK.codeFault("load 0 when " + word + "e=1;", 1, 12);
            CHECK.codeFault("load 0 when " + word.substring(0, word.length() - 1) + "=1;", 1, 12);
            if (!word.equals("rain")) {
                CHECK.lawFault("dry " + word + ";", 1, 4);
            }
        }
        for (String word : "down dry soup sweat when or and not".split(" ")) {
            CHECK.lawFault("dry " + word + ";", 1, 4);
            CHECK.lawFault("dry 1 when 1=" + word + ";", 1, 13);
        }
        for (String word : "load stop test when or and not".split(" ")) {
            CHECK.codeFault("load 0 when 1=" + word + ";", 1, 14);
        }
        for (String joined : new String[] {"downdry 1;", "dryz 1;", "dryA 1;", "dryZ 1;", "adry 1;"}) {
            CHECK.lawFault(joined, 1, 0);
        }
        CHECK.lawFault("dry1whenwet=1;", 1, 4);
        CHECK.lawFault("dry 1 when 1=1or1=1 andnot 1=1;", 1, 20);
        // the signs next to the letters are no letters
        for (int sign : new int[] {'@', '[', '`', '{', 0, 127, 128, 255}) {
            CHECK.lawFault("dry" + (char) sign + "1;", 1, 3);
        }
    }

    private static void digits() {
        CHECK.by("digits as many as stand together NUMBERS of 1 to 4 digits or none");
        SoupCargo cargo = new SoupCargo();
        cargo.heap(0, 0, 0, 1, 0);
        String[] texts = {"0", "9", "10", "099", "999", "1000", "0000", "0001", "9999"};
        for (String text : texts) {
            Check.laws(cargo, "sweat " + text + ";");
            CHECK.due("NUMBER " + text, cargo.told(3, NONE, 0, 0, 0), Integer.parseInt(text));
        }
        for (String text : new String[] {"10000", "00000", "00001", "99999", "1234567890123456789"}) {
            CHECK.lawFault("sweat " + text + ";", 1, 6);
            CHECK.lawFault("sweat 1/" + text + ";", 1, 8);
            CHECK.codeFault("load " + text + " when 1=1;", 1, 5);
        }
        CHECK.lawFault("sweat 1234 5;", 1, 11);
        CHECK.lawFault("sweat 1:2;", 1, 7);
    }

    private static void blanksAndSigns() {
        CHECK.by("; + - * / ( ) < = > . Blanks (32, 10) between.");
        good("dry\n1\n+\n1\n-\n1\n*\n1\n/\n1\nwhen\nnot\n(\n1\n<\n1\n)\n;\n");
        good("   dry  1  ;   ");
        good("dry1+1-1*1/1when not(1<1)or(1=1)and(1>1);");
        for (int sign = 0; sign < 256; sign++) {
            boolean known = sign == 32 || sign == 10 || sign >= '0' && sign <= '9' || ";+-*/()<=>".indexOf(sign) >= 0;
            boolean letter = sign >= 'a' && sign <= 'z' || sign >= 'A' && sign <= 'Z';
            if (!known && !letter) {
                CHECK.lawFault("dry 1" + (char) sign + ";", 1, 5);
                CHECK.codeFault((char) sign + "", 1, 0);
            }
        }
        CHECK.lawFault("dry 1\t;", 1, 5);
        CHECK.lawFault("dry 1\r\n;", 1, 5);
    }

    private static void worth(String e, int due) {
        SoupCargo cargo = Scene.withLaws("sweat " + e + "; dry 1 when " + e + "<0; dry 2;");
        cargo.heap(0, 0, 0, 1, 9999);
        CHECK.due(e, cargo.told(3, NONE, 0, 0, 0), due);
        CHECK.due("whether it is below 0: " + e, cargo.told(1, NONE, 0, 0, 0), due < 0 ? 1 : 2);
    }

    private static void wrapping() {
        CHECK.by("Ints, which wrap;");
        // 32768 * 32768 * 2 is 2 to the 31st
        String most = "8192*4*8192*4*2";
        worth(most, Integer.MIN_VALUE);
        worth(most + "-1", Integer.MAX_VALUE);
        worth("0-" + most, Integer.MIN_VALUE);
        worth(most + "+" + most, 0);
        worth(most + "-1+1", Integer.MIN_VALUE);
        worth("0-1-" + most, Integer.MAX_VALUE);
        worth(most + "*2", 0);
        worth(most + "*9999", Integer.MIN_VALUE);
        worth("9999*9999*9999*9999", 9999 * 9999 * 9999 * 9999);
        worth("water*water*water", 9999 * 9999 * 9999);
        worth(most + "/2", Integer.MIN_VALUE / 2);
        worth(most + "/1", Integer.MIN_VALUE);
    }

    private static void dividing() {
        CHECK.by("/ goes towards 0.");
        worth("0*1/9999", 0);
        worth("7/7", 1);
        worth("6/7", 0);
        worth("9999/9999", 1);
        worth("9999/1", 9999);
        // a product that has wrapped below 0: 9999 * 9999 * 22 is 2199560022, -2095407274 as an int
        worth("9999*9999*22/9999", -2095407274 / 9999);
        worth("9999*9999*22/1000", -2095407);
        worth("9999*9999*22/9999/9999/22", 0);
        worth("0-7/2", -3);
        worth("100/7/3*5/4", 5);
    }

    private static void isSo(String b, boolean due) {
        SoupCargo cargo = Scene.withLaws("sweat 1 when " + b + ";");
        cargo.heap(0, 0, 0, 1, 0);
        CHECK.due("whether " + b, cargo.told(3, NONE, 0, 0, 0), due ? 1 : 0);
    }

    private static void comparing() {
        CHECK.by("C = E (< | = | >) E | not C | ( B ).");
        String most = "8192*4*8192*4*2-1";
        String least = "8192*4*8192*4*2";
        String[] numbers = {least, "0-1", "0", "1", most};
        for (int i = 0; i < numbers.length; i++) {
            for (int k = 0; k < numbers.length; k++) {
                isSo(numbers[i] + "<" + numbers[k], i < k);
                isSo(numbers[i] + "=" + numbers[k], i == k);
                isSo(numbers[i] + ">" + numbers[k], i > k);
            }
        }
        for (String so : new String[] {"1<2", "2=2", "2>1"}) {
            isSo("not " + so, false);
            isSo("not not " + so, true);
            isSo("(" + so + ")", true);
            isSo("1=1 and " + so, true);
            isSo(so + " and 1=1", true);
            isSo("1=2 or " + so, true);
            isSo(so + " or 1=2", true);
            isSo("not " + so + " or 1=2", false);
            isSo("1=2 or 1=1 and " + so, true);
            isSo("1=2 and " + so + " or 1=2", false);
            isSo(so + " or 1=2 and 1=2", true);
            isSo("(" + so + " or 1=2) and 1=2", false);
        }
    }

    private static void firstFault() {
        CHECK.by("FAULTS, the first by its place");
        CHECK.lawFault("dry 1/0; dry 1/0; ?", 2, 6);
        CHECK.lawFault("dry ? 1/0;", 1, 4);
        CHECK.lawFault("dry 1/0 ?", 2, 6);
        CHECK.lawFault("dry 1;".repeat(16) + "dry 1/0;", 3, 96);
        CHECK.lawFault("dry 1;".repeat(15) + "dry 1/0;dry", 2, 96);
        CHECK.lawFault("dry 1 when " + "(".repeat(9) + "1/0=1;", 3, 19);
        CHECK.lawFault("dry 1 when 1/0=1 and " + "(".repeat(9), 2, 13);
        CHECK.codeFault("load 4 when ?", 2, 5);
        CHECK.codeFault("? load 4", 1, 0);
        CHECK.codeFault("load 0 when 1=1; load 5 when 1=1; load 6", 2, 22);
        CHECK.lawFault("dry 12345 ?", 1, 4);
    }

    private static void leastFault() {
        CHECK.by("at one place the least: 1 what can't stand there");
        // a ninth ( that can't stand there at all, a part by a NUMBER that is none, a PERSON that is none
        CHECK.lawFault("dry 1 when " + "(".repeat(8) + "1(", 1, 20);
        CHECK.lawFault("dry 1 when " + "(".repeat(8) + "1=(", 1, 21);
        CHECK.lawFault("dry 1 when " + "not ".repeat(8) + "1=not", 1, 45);
        CHECK.lawFault("dry 1;".repeat(16) + "when", 1, 96);
        CHECK.lawFault("dry 1;".repeat(16) + "load", 1, 96);
        CHECK.lawFault("dry 1;".repeat(16) + ";", 1, 96);
        CHECK.lawFault("dry 1/00000;", 1, 6);
        CHECK.codeFault("load 99999 when 1=1;", 1, 5);
        CHECK.codeFault("load when", 1, 5);
    }

    private static void faultAtTheEnd() {
        CHECK.by("(the end: the text's length)");
        String text = "dry 1 + wet * 2 / 3 when not ( 1 < 2 or 3 = 4 ) and 5 > 6 ;";
        for (int n = 1; n < text.length(); n++) {
            if (text.charAt(n) == ' ') {
                CHECK.lawFault(text.substring(0, n), 1, n);
                CHECK.lawFault(text.substring(0, n) + "  \n", 1, n + 3);
            }
        }
        String code = "load 3 when said = 1 ;";
        for (int n = 1; n < code.length(); n++) {
            if (code.charAt(n) == ' ') {
                CHECK.codeFault(code.substring(0, n), 1, n);
            }
        }
        CHECK.lawFault("dry 1" + "+1".repeat(297) + "+", 1, 600);
        CHECK.lawFault("dry 1" + " ".repeat(595), 1, 600);
        CHECK.lawFault("d", 1, 0);
    }

    private static void wrongNumbers() {
        CHECK.by("2 (at the NUMBER) a part by 0, a PERSON above 3.");
        for (String zero : new String[] {"0", "00", "000", "0000"}) {
            CHECK.lawFault("dry 1/" + zero + ";", 2, 6);
            CHECK.lawFault("dry 1/ \n" + zero + ";", 2, 8);
            CHECK.lawFault("dry 1/2*3/" + zero, 2, 10);
            CHECK.lawFault("dry 1 when 1=1/" + zero + ";", 2, 15);
            CHECK.codeFault("load 0 when can/" + zero + "=1;", 2, 16);
        }
        good("dry 1/1;");
        good("dry 0/1;");
        good("dry 1/0001;");
        for (String head : new String[] {"load", "stop", "test"}) {
            for (String person : new String[] {"0", "3", "03", "0003"}) {
                CHECK.due(head + person, Check.code(new SoupCargo(), head + " " + person + " when 1=1;"), 1);
            }
            for (String person : new String[] {"4", "04", "0004", "10", "9999"}) {
                CHECK.codeFault(head + " " + person + " when 1=1;", 2, 5);
            }
        }
    }

    private static void manyLines() {
        CHECK.by("3 (at its KEYWORD) the 17th line;");
        for (int lines = 1; lines <= 16; lines++) {
            CHECK.due(lines + " LAWS", Check.laws(new SoupCargo(), "dry 1;".repeat(lines)), lines);
            CHECK.due(lines + " lines of THE CODE", Check.code(new SoupCargo(), "test 1 when 1=1;".repeat(lines)), lines);
        }
        for (String head : new String[] {"down", "dry", "soup", "sweat"}) {
            CHECK.lawFault("dry 1;".repeat(16) + " \n" + head, 3, 98);
        }
        for (String head : new String[] {"load", "stop", "test"}) {
            CHECK.codeFault("test 1 when 1=1;".repeat(16) + head + " 9", 3, 256);
        }
        CHECK.lawFault("dry 1;".repeat(100), 3, 96);
        SoupCargo cargo = new SoupCargo();
        cargo.heap(0, 0, 0, 1, 0);
        Check.laws(cargo, "dry 1;".repeat(15) + "sweat 7;");
        CHECK.due("the 16th LAW", cargo.told(3, NONE, 0, 0, 0), 7);
        Check.code(cargo, "test 1 when 1=2;".repeat(15) + "test 1 when 1=1;");
        CHECK.due("the 16th line of THE CODE", cargo.may(1, 2), 1);
    }

    private static void openOnes() {
        CHECK.by("(at it) the 9th ( or not that is open.");
        for (int nots = 0; nots <= 8; nots++) {
            String open = "not ".repeat(nots) + "(".repeat(8 - nots);
            String close = ")".repeat(8 - nots);
            good("dry 1 when " + open + "1=1" + close + ";");
            CHECK.lawFault("dry 1 when " + open + "(1=1)" + close + ";", 3, 11 + open.length());
            CHECK.lawFault("dry 1 when " + open + "not 1=1" + close + ";", 3, 11 + open.length());
        }
        String full = "dry 1 when " + "(".repeat(8) + "1=1" + ")".repeat(8);
        good(full + " and " + "(".repeat(8) + "1=1" + ")".repeat(8) + ";");
        good("dry 1 when (((((((not 1=1 and not 1=1 or not 1=1))))))) and not (not (1=1));");
        CHECK.lawFault(full + " or not " + "(".repeat(8) + "1=1", 3, 11 + 19 + 8 + 7);
        good("dry 1 when " + "not 1=1 and ".repeat(20) + "1=1;");
        SoupCargo cargo = new SoupCargo();
        cargo.heap(0, 0, 0, 1, 0);
        for (int nots = 0; nots <= 8; nots++) {
            Check.laws(cargo, "sweat 1 when " + "not ".repeat(nots) + "1=1;");
            CHECK.due(nots + " nots", cargo.told(3, NONE, 0, 0, 0), nots % 2 == 0 ? 1 : 0);
        }
        CHECK.codeFault("stop 0 when " + "(not ".repeat(4) + "(1=1;", 3, 12 + 20);
    }
}
