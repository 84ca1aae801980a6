/** Promises 6 to 10: the tape, the two texts and their faults. */
public final class TextTest {
    private static final Check CHECK = new Check("TextTest");

    public static void main(String[] args) {
        tape();
        goodTexts();
        aFaultLeavesWhatWas();
        sums();
        products();
        truths();
        eachLaw();
        wordsOfLaws();
        wordsOfTheCode();
        lawFaults();
        codeFaults();
        manyLines();
        openOnes();
        latestFault();
        CHECK.close();
    }

    private static void tape() {
        CHECK.by("Twenty bytes come behind the TAPE, of each number the highest first: how many it has.");
        SoupCargo cargo = new SoupCargo();
        CHECK.no("end(1) of an empty tape", cargo.end(1));
        CHECK.yes("end(0) of an empty tape", cargo.end(0));
        for (int i = 1; i <= 30; i++) {
            CHECK.due("feed " + i, cargo.feed(0x20202020, 0x20202020, 0x20202020, 0x20202020, 0x20202020), 20 * i);
        }
        CHECK.due("feed beyond 600", cargo.feed(0, 0, 0, 0, 0), -1);
        CHECK.no("end(601)", cargo.end(601));
        CHECK.no("end(-1)", cargo.end(-1));
        CHECK.yes("end(600)", cargo.end(600));
        CHECK.yes("end(581)", cargo.end(581));
        CHECK.due("feed to 601", cargo.feed(0, 0, 0, 0, 0), -1);
        CHECK.yes("nothing came", cargo.end(581));
        CHECK.yes("end(580)", cargo.end(580));
        CHECK.due("feed to 600", cargo.feed(0x20202020, 0x20202020, 0x20202020, 0x20202020, 0x20202020), 600);
        CHECK.due("laws of blanks", cargo.laws(), 0);
        CHECK.no("the tape is empty then", cargo.end(1));
        // 'dry ' '7;  ': the highest byte is the first
        cargo.feed(0x64727920, 0x373b2020, 0x20202020, 0x20202020, 0x20202020);
        CHECK.due("laws by bytes", cargo.laws(), 1);
        cargo.heap(0, 0, 0, 1, 0);
        CHECK.due("told", cargo.told(1, -1, 0, 0, 0), 7);
        Check.feed(cargo, "load 0 when 1=1;");
        CHECK.due("code", cargo.code(), 1);
        CHECK.no("the tape is empty after code", cargo.end(1));
        Check.feed(cargo, "load");
        cargo.code();
        CHECK.no("the tape is empty after a fault", cargo.end(1));
    }

    private static void good(String text, int lines) {
        SoupCargo cargo = new SoupCargo();
        CHECK.due("laws of '" + text + "'", Check.laws(cargo, text), lines);
        CHECK.due("fault(0)", cargo.fault(0), 0);
        CHECK.due("fault(1)", cargo.fault(1), -1);
    }

    private static void goodTexts() {
        CHECK.by("The TAPE, empty then, are the LAWS: how many lines.");
        good("", 0);
        good(" \n ", 0);
        good("down1;dry2;", 2);
        good("\ndown\n1\n;\n", 1);
        good("down 5wet;".replace("5wet", "5*wet"), 1);
        good("soup 1 when not not(not(1<2)or 3=4)and 5>6;", 1);
        good("sweat wet*water/3+ore-layer*sort/9999 when rain<clock or shaken=lit and lit>0;", 1);
        good("down 0000;", 1);
        good("down 1 when1=1;", 1);
        SoupCargo cargo = new SoupCargo();
        CHECK.due("code", Check.code(cargo, "load 0 when said<can;stop 0003 when age=rain or day>loaded and swell=port;"
            + "test2when not(1=2);"), 3);
    }

    private static void aFaultLeavesWhatWas() {
        CHECK.by("NONE: a FAULT (they stay as they were).");
        SoupCargo cargo = new SoupCargo();
        cargo.heap(0, 0, 0, 1, 0);
        Check.laws(cargo, "dry 7; sweat 8;");
        Check.code(cargo, "load 1 when 1=1;");
        CHECK.due("a fault behind good lines", Check.laws(cargo, "dry 1; sweat 2; soup 3; down"), -1);
        CHECK.due("dry as it was", cargo.told(1, -1, 0, 0, 0), 7);
        CHECK.due("sweat as it was", cargo.told(3, -1, 0, 0, 0), 8);
        CHECK.due("soup as it was", cargo.told(2, -1, 0, 0, 0), 0);
        CHECK.due("a faulty code", Check.code(cargo, "stop 1 when 1=1; load 2 when 1=1; ?"), -1);
        CHECK.due("the code as it was", cargo.may(1, 0), 1);
        CHECK.due("nobody may stop", cargo.may(1, 1), 0);
        CHECK.due("LET as it was", cargo.let(19, 0), 2100);
        CHECK.due("new laws are these alone", Check.laws(cargo, "sweat 2;"), 1);
        CHECK.due("no dry any more", cargo.told(1, -1, 0, 0, 0), 0);
        CHECK.due("an empty tape is no laws", cargo.laws(), 0);
        CHECK.due("no sweat any more", cargo.told(3, -1, 0, 0, 0), 0);
        CHECK.due("the code is still there", cargo.may(1, 0), 1);
    }

    private static void value(String e, int due) {
        SoupCargo cargo = new SoupCargo();
        cargo.heap(5, 6, 0, 7, 93);
        CHECK.due("laws", Check.laws(cargo, "sweat " + e + ";"), 1);
        CHECK.due("sweat " + e, cargo.told(3, -1, 5, 6, 0), due);
    }

    private static void truth(String b, boolean due) {
        SoupCargo cargo = new SoupCargo();
        cargo.heap(5, 6, 0, 7, 93);
        CHECK.due("laws", Check.laws(cargo, "sweat 1 when " + b + ";"), 1);
        CHECK.due("when " + b, cargo.told(3, -1, 5, 6, 0), due ? 1 : 0);
    }

    private static void sums() {
        CHECK.by("E = T {(+ | -) T}.");
        value("1+2*3", 7);
        value("10-3-2", 5);
        value("10-3+2", 9);
        value("2*3-4*5+6/4", -13);
        value("3-9*wet/4", -26);
        value("wet*1000+ore", 13007);
    }

    private static void products() {
        CHECK.by("T = U {* U | / NUMBER}.");
        value("2*3/4*5", 5);
        value("7/2*2", 6);
        value("0-7/2", -3);
        value("1-8*1/3", -1);
        value("100/3/4", 8);
        value("water*ore/13-1", 49);
        value("9999*9999*9999", (int) (9999L * 9999 * 9999));
        value("9999*9999*9999/7", (int) (9999L * 9999 * 9999) / 7);
    }

    private static void truths() {
        CHECK.by("B = A {or A}.  A = C {and C}.  C = E (< | = | >) E | not C | ( B ).");
        truth("1<2", true);
        truth("2<2", false);
        truth("2=2", true);
        truth("3>2", true);
        truth("2>2", false);
        truth("1=2 or 1=1 and 1=2", false);
        truth("1=1 or 1=1 and 1=2", true);
        truth("1=2 and 1=1 or 1=1", true);
        truth("1=2 and (1=1 or 1=1)", false);
        truth("not 1=2 and 1=2", false);
        truth("not 1=1 or 1=1", true);
        truth("not (1=1 or 1=1)", false);
        truth("not not 1=1", true);
        truth("1+1=2*1 and 5-3<3", true);
    }

    private static void eachLaw() {
        CHECK.by("LAWS are a TEXT (empty at first) = {(down | dry | soup | sweat) E [when B] ;}.");
        String[] heads = {"down", "dry", "soup", "sweat"};
        for (int which = 0; which < 4; which++) {
            SoupCargo cargo = Scene.withLaws(heads[which] + " 5 when ore=9; " + heads[which] + " 7;");
            cargo.heap(0, 0, 0, 9, 0);
            cargo.heap(0, 0, 1, 8, 0);
            for (int other = 0; other < 4; other++) {
                CHECK.due(heads[other] + " with when", cargo.told(other, -1, 0, 0, 0), other == which ? 5 : 0);
                CHECK.due(heads[other] + " without", cargo.told(other, -1, 0, 0, 1), other == which ? 7 : 0);
            }
        }
    }

    /** A cell of the heap that is lit, at hour 30, and one that has been shaken in a hold, at hour 31. */
    private static void wordsOfLaws() {
        CHECK.by("U = NUMBER | wet | water | ore | layer | sort | rain | clock | shaken | lit in LAWS;");
        String[] words = {"wet", "water", "ore", "layer", "sort", "rain", "clock", "shaken", "lit"};
        int[] ofHeap = {12, 87, 7, 1, 2, 8, 6, 0, 1};
        int[] ofHold = {6, 20, 3, 1, 2, 8, 7, 5, 0};
        SoupCargo cargo = new SoupCargo();
        cargo.sort(2);
        cargo.sky(1, 8, 5);
        Scene.passTo(cargo, 30);
        Scene.put(cargo, 2, 3, 1, 0);
        Scene.put(cargo, 2, 3, 3, 20);
        cargo.heap(1, 2, 0, 9, 9);
        cargo.heap(1, 2, 1, 7, 87);
        for (int i = 0; i < words.length; i++) {
            Check.laws(cargo, "sweat " + words[i] + ";");
            CHECK.due(words[i] + " of the heap", cargo.told(3, -1, 1, 2, 1), ofHeap[i]);
        }
        CHECK.by("of its wet, water, ore, layer (z), sort, rain of the DAY, clock, shaken (of a HOLD's CELL, else 0), lit");
        cargo.sail(0);
        cargo.hours(1);
        for (int i = 0; i < words.length; i++) {
            Check.laws(cargo, "sweat " + words[i] + ";");
            CHECK.due(words[i] + " of a hold", cargo.told(3, 2, 3, 0, 1), ofHold[i]);
        }
    }

    private static void wordsOfTheCode() {
        CHECK.by("NUMBER | said | can | age | rain | day | loaded | swell | port in THE CODE.");
        String[] words = {"17", "said", "can", "age", "rain", "day", "loaded", "swell", "port"};
        int[] due = {17, 33, 4, 26, 8, 1, 2, 5, 1};
        SoupCargo cargo = new SoupCargo();
        cargo.paper(33);
        cargo.sky(1, 8, 5);
        cargo.heap(0, 0, 0, 2, 9);
        cargo.hours(3);
        cargo.can(0, 0, 0);
        Scene.passTo(cargo, 29);
        Scene.put(cargo, 0, 0, 1, 0);
        Scene.put(cargo, 3, 5, 1, 0);
        for (int i = 0; i < words.length; i++) {
            Check.code(cargo, "load 3 when " + words[i] + "=" + due[i] + "; test 1 when not " + words[i] + "=" + due[i] + ";");
            CHECK.due(words[i] + " is " + due[i], cargo.may(3, 0), 1);
            CHECK.due(words[i] + " is not " + due[i], cargo.may(1, 2), 0);
        }
    }

    private static void lawFaults() {
        CHECK.by("1 what can't stand there (the end: the text's length).");
        CHECK.lawFault("down", 1, 4);
        CHECK.lawFault("down  ", 1, 6);
        CHECK.lawFault("down 1", 1, 6);
        CHECK.lawFault("down 1; 2", 1, 8);
        CHECK.lawFault(";", 1, 0);
        CHECK.lawFault("when 1=1;", 1, 0);
        CHECK.lawFault("load 1 when 1=1;", 1, 0);
        CHECK.lawFault("down said;", 1, 5);
        CHECK.lawFault("down wett;", 1, 5);
        CHECK.lawFault("down we;", 1, 5);
        CHECK.lawFault("down Wet;", 1, 5);
        CHECK.lawFault("downX 1;", 1, 0);
        CHECK.lawFault("downa 1;", 1, 0);
        CHECK.lawFault("downz 1;", 1, 0);
        CHECK.lawFault("downA 1;", 1, 0);
        CHECK.lawFault("downZ 1;", 1, 0);
        CHECK.lawFault("down{ 1;", 1, 4);
        CHECK.lawFault("down@ 1;", 1, 4);
        CHECK.lawFault("down[ 1;", 1, 4);
        CHECK.lawFault("down` 1;", 1, 4);
        CHECK.lawFault("down 1: 1;", 1, 6);
        CHECK.lawFault(";".repeat(600), 1, 0);
        CHECK.lawFault("dry 1;" + " ".repeat(593) + "?", 1, 599);
        CHECK.lawFault("dry 1" + "+1".repeat(297) + "+", 1, 600);
        CHECK.lawFault("down wetwater;", 1, 5);
        CHECK.lawFault("down 5wet;", 1, 6);
        CHECK.lawFault("down 1 2;", 1, 7);
        CHECK.lawFault("down 12345;", 1, 5);
        CHECK.lawFault("down 00000;", 1, 5);
        CHECK.lawFault("down (1);", 1, 5);
        CHECK.lawFault("down -1;", 1, 5);
        CHECK.lawFault("down 1+;", 1, 7);
        CHECK.lawFault("down 1*-1;", 1, 7);
        CHECK.lawFault("down 1/ore;", 1, 7);
        CHECK.lawFault("down 1/12345;", 1, 7);
        CHECK.lawFault("down 1/0;", 2, 7);
        CHECK.lawFault("down 1/ 000;", 2, 8);
        CHECK.lawFault("down 1/2/0;", 2, 9);
        CHECK.lawFault("down 1*2/0 ?", 2, 9);
        CHECK.lawFault("down 1<2;", 1, 6);
        CHECK.lawFault("down 1 when;", 1, 11);
        CHECK.lawFault("down 1 when wet;", 1, 15);
        CHECK.lawFault("down 1 when 1=1=1;", 1, 15);
        CHECK.lawFault("down 1 when 1=1 and;", 1, 19);
        CHECK.lawFault("down 1 when (1=1;", 1, 16);
        CHECK.lawFault("down 1 when 1=1);", 1, 15);
        CHECK.lawFault("down 1 when (1+1)=2;", 1, 16);
        CHECK.lawFault("down 1 when 1=(1);", 1, 14);
        CHECK.lawFault("down 1 when 1=not 1=1;", 1, 14);
        CHECK.lawFault("down 1 when not;", 1, 15);
        CHECK.lawFault("down 1 when 1=1 when 1=1;", 1, 16);
        CHECK.lawFault("down 1 when ();", 1, 13);
        CHECK.lawFault("down\t1;", 1, 4);
        CHECK.lawFault("down\r\n1;", 1, 4);
        CHECK.lawFault("down 1.;", 1, 6);
        CHECK.lawFault("down 1;" + (char) 0, 1, 7);
        CHECK.lawFault("down 1;" + (char) 233, 1, 7);
        CHECK.lawFault("down 1;;", 1, 7);
        CHECK.lawFault("dry 1 or 1;", 1, 6);
    }

    private static void codeFaults() {
        CHECK.by("{(load | stop | test) N when B ;} (N: a PERSON 0 .. 3).");
        CHECK.codeFault("load", 1, 4);
        CHECK.codeFault("load when 1=1;", 1, 5);
        CHECK.codeFault("load said when 1=1;", 1, 5);
        CHECK.codeFault("load 4 when 1=1;", 2, 5);
        CHECK.codeFault("load 9999 ?", 2, 5);
        CHECK.codeFault("load 00004 when 1=1;", 1, 5);
        CHECK.codeFault("load 0;", 1, 6);
        CHECK.codeFault("load 0 1 when 1=1;", 1, 7);
        CHECK.codeFault("load 0+1 when 1=1;", 1, 6);
        CHECK.codeFault("down 1;", 1, 0);
        CHECK.codeFault("stop 1 when wet=1;", 1, 12);
        CHECK.codeFault("test 2 when 1;", 1, 13);
        CHECK.codeFault("test 2 when port/0=1;", 2, 17);
        CHECK.codeFault("test 2 when port=1", 1, 18);
        CHECK.codeFault("test 2 when load=1;", 1, 12);
    }

    private static void manyLines() {
        CHECK.by("the 17th line;");
        SoupCargo cargo = new SoupCargo();
        CHECK.due("16 laws", Check.laws(cargo, "dry 5;".repeat(16)), 16);
        CHECK.due("16 lines of code", Check.code(cargo, "load 1 when 1=1;".repeat(16)), 16);
        CHECK.lawFault("dry 5;".repeat(16) + " soup", 3, 97);
        CHECK.lawFault("dry 5;".repeat(17), 3, 96);
        CHECK.lawFault("dry 5;".repeat(16) + "load", 1, 96);
        CHECK.lawFault("dry 5;".repeat(15) + "dry 1/0;dry 1;dry", 2, 96);
        CHECK.codeFault("load 1 when 1=1;".repeat(16) + "stop 4", 3, 256);
        SoupCargo full = new SoupCargo();
        full.heap(0, 0, 0, 1, 0);
        Check.laws(full, "sweat 1 when 1=2;".repeat(15) + "sweat 9;");
        CHECK.due("the 16th law", full.told(3, -1, 0, 0, 0), 9);
        StringBuilder longest = new StringBuilder("sweat 1");
        longest.append("+1".repeat(296)).append(";");
        CHECK.due("600 bytes of one law", Check.laws(full, longest.toString()), 1);
        CHECK.due("what it comes to", full.told(3, -1, 0, 0, 0), 297);
    }

    private static void openOnes() {
        CHECK.by("the 9th ( or not that is open.");
        good("soup 1 when " + "(".repeat(8) + "1=1" + ")".repeat(8) + ";", 1);
        good("soup 1 when " + "not ".repeat(8) + "1=1;", 1);
        good("soup 1 when " + "not(".repeat(4) + "1=1" + ")".repeat(4) + ";", 1);
        good("soup 1 when " + "not 1=1 or ".repeat(12) + "(1=1) and (1=1);", 1);
        good("soup 1 when (" + "not 1=1 or ".repeat(12) + "(1=1)) and (1=1);", 1);
        CHECK.lawFault("soup 1 when (((((((((1=1;", 3, 20);
        CHECK.lawFault("soup 1 when " + "not ".repeat(9) + "1=1;", 3, 44);
        CHECK.lawFault("soup 1 when " + "not(".repeat(4) + "not 1=1;", 3, 28);
        CHECK.lawFault("soup 1 when " + "not(".repeat(4) + "1=1;", 1, 31);
        CHECK.lawFault("soup 1 when " + "not(".repeat(4) + "(1=1;", 3, 28);
        CHECK.lawFault("soup 1 when " + "not(".repeat(4) + "not(", 3, 28);
        CHECK.lawFault("soup 1 when " + "(".repeat(8) + "not 1=1", 3, 20);
        CHECK.lawFault("soup 1 when " + "(".repeat(7) + "not 1=1 and not 2=2 and (1=1)?", 1, 48);
        // deep and wide, so that as much as can be stands open while it is worked out
        String wide = "1=2 or 1=1 and (";
        SoupCargo cargo = new SoupCargo();
        cargo.heap(0, 0, 0, 1, 0);
        CHECK.due("laws", Check.laws(cargo, "sweat 5 when " + wide.repeat(8) + "1=2 or 1=1 and 1+1+2*3=2+2*3"
            + ")".repeat(8) + ";"), 1);
        CHECK.due("sweat", cargo.told(3, -1, 0, 0, 0), 5);
    }

    private static void latestFault() {
        CHECK.by("Of the latest laws() or code():");
        SoupCargo cargo = new SoupCargo();
        CHECK.due("fault(0) at first", cargo.fault(0), 0);
        CHECK.due("fault(1) at first", cargo.fault(1), -1);
        Check.laws(cargo, "down 1/0;");
        CHECK.due("fault(0)", cargo.fault(0), 2);
        CHECK.due("fault(2)", cargo.fault(2), -1);
        CHECK.due("fault(-1)", cargo.fault(-1), -1);
        Check.code(cargo, "load");
        CHECK.due("fault(0) of the code", cargo.fault(0), 1);
        CHECK.due("fault(1) of the code", cargo.fault(1), 4);
        Check.laws(cargo, "down 1;");
        CHECK.due("fault(0) of good laws", cargo.fault(0), 0);
        CHECK.due("fault(1) of good laws", cargo.fault(1), -1);
    }
}
