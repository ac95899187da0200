import java.util.ArrayList;
import java.util.List;
import java.util.function.ToLongFunction;

/** The edges of "Terms" ==== 1: each sentence on THE DESK's text that names a bound, on both its sides. */
public final class TextEdgeTest {
    private static final String HEAD = Kit.HEAD;

    public static void main(String[] args) {
        atMost900Bytes();
        withoutText();
        headAndLines();
        everyTokenOfALine();
        boundsOfTheHead();
        boundsOfLines();
        boundsOfInputs();
        atMostSoMany();
        numberedFromZero();
        laterLawsStrike();
        sixWithinOneAnother();
        sixOneBehindTheOther();
        everyByte();
        numbersOfDigits();
        asLongAsTheyGoOn();
        firstAlongTheText();
        leastKindOfOneToken();
        theEnd();
        deskFirstAndOnce();
        wordsOfTheOtherLaw();
        Kit.end();
    }

    /** The text is read, and tells so many lines. */
    private static PillarDesk taken(String text, int lines) {
        PillarDesk x = new PillarDesk();
        Kit.due(text, Kit.tell(x, text), lines);
        Kit.due(text + " fault(0)", x.fault(0), 0);
        Kit.due(text + " fault(1)", x.fault(1), -1);
        Kit.due(text + " count(9)", x.count(9), lines);
        return x;
    }

    /** The text has a fault of a kind at a place; all but the tape and the fault is as it was. */
    private static void refused(String text, int kind, int place) {
        PillarDesk x = Twin.full();
        x.desk(0);
        Kit.due(text, Kit.tell(x, text), -30 - kind);
        Kit.due(text + " fault(0)", x.fault(0), kind);
        Kit.due(text + " fault(1)", x.fault(1), place);
        Kit.due(text + " the tape is empty", x.count(8), 0);
        Twin.alikeButTape(text, x, Twin.full());
    }

    private static void refusedLine(String line, int kind, int place) {
        refused(HEAD + line, kind, HEAD.length() + place);
    }

    // ---- "a TEXT of at most 900 bytes (without one: FIRST 0, CURVE 0, SHIFT 0, nothing else)"

    private static void atMost900Bytes() {
        String blanks = " ".repeat(900 - HEAD.length() - 10);
        PillarDesk x = taken(HEAD + blanks + "holiday 4;", 2);
        Kit.due("the last of 900 bytes is read", x.open(4), 0);
        PillarDesk y = new PillarDesk();
        Kit.feed(y, HEAD + blanks + "holiday 4;");
        Kit.due("900 bytes", y.count(8), 900);
        Kit.due("no more than 900", y.feed(0, 0, 0, 0, 0), -5);
        Kit.due("899 of 900 bytes", y.desk(899), -32);
        Kit.due("their end", y.fault(1), 899);
    }

    private static void withoutText() {
        PillarDesk x = new PillarDesk();
        for (int what = 0; what <= 9; what++) {
            Kit.due("without a text count(" + what + ")", x.count(what), 0);
        }
        Kit.due("no input", x.input(0, 0), -2);
        Kit.due("no flow", x.flow(0, 0), Kit.FAR - 2);
        Kit.due("FIRST 0: five days", x.opens(0, 7), 5);
        Kit.due("FIRST 0: the fifth", x.open(4), 1);
        Kit.due("FIRST 0: the sixth", x.open(5), 0);
        Kit.due("one pillar", x.pillars(), 1);
        Kit.due("nothing to bump", x.bump(0, 0), -11);
        Kit.due("nothing to change", x.amount(0, 0), -11);
        Kit.due("a shift to change", x.shift(9), 0);
    }

    // ---- "desk first N curve N shift N ; { LINE ; }"

    private static void headAndLines() {
        taken(HEAD, 1);
        refused(HEAD.substring(0, HEAD.length() - 1), 2, HEAD.length() - 1);
        refused(HEAD + ";", 2, HEAD.length());
        taken(HEAD + "holiday 1;", 2);
        refused(HEAD + "holiday 1", 2, HEAD.length() + 9);
        refused(HEAD + "holiday 1;;", 2, HEAD.length() + 10);
        taken(HEAD + "holiday 1;flow 1 plus 1;", 3);
        refused(HEAD + "holiday 1 flow 1 plus 1;", 2, HEAD.length() + 10);
    }

    private static void everyTokenOfALine() {
        String[] texts = {"desk first 0 curve 0 shift 0 ;", "holiday 3 ;", "deposit 4 rate 5 ;", "forward 4 9 rate 5 ;", "swap 40 every 30 rate 5 ;",
            "flow 1 plus 1 ;", "flow 1 minus 1 ;", "rates : told + days - kind * ( shift + input ) ;",
            "rates : if told = 1 and not days < 2 or [ kind > 1 ] then 2 else 3 end ;", "opens : week = holiday or date > 3 and not [ 1 < 2 ] ;"};
        for (int k = 0; k < texts.length; k++) {
            String ahead = k == 0 ? "" : HEAD;
            taken(ahead + texts[k], k == 0 ? 1 : 2);
            everyToken(ahead, texts[k].split(" "));
        }
    }

    /** Each token cut off with all behind it, or put in another's place. */
    private static void everyToken(String ahead, String[] tokens) {
        StringBuilder text = new StringBuilder(ahead);
        for (int k = 0; k < tokens.length; k++) {
            if (k > 0 || ahead.isEmpty()) {
                refused(text.toString(), 2, text.length());
            }
            refused(text + "zz", 2, text.length());
            refused(text + "?", 1, text.length());
            refused(text + "1000", 1, text.length());
            if (tokens[k].matches("[a-z]+")) {
                refused(text + tokens[k] + tokens[k], 2, text.length());
            }
            if (!tokens[k].matches("[0-9]+") && !nOr(tokens, k)) {
                refused(text + "5", 2, text.length());
            }
            text.append(tokens[k]).append(' ');
        }
        refused(text + ")", 2, text.length());
    }

    /** Whether an N could stand in this token's place too. */
    private static boolean nOr(String[] tokens, int k) {
        return k > 0 && tokens[k].matches("[a-z]+|\\(|\\[") && tokens[k - 1].matches("[:=<>(\\[+*-]|if|and|or|not|then|else")
                && !tokens[0].equals("flow");
    }

    // ---- bounds of each N

    private static void bounds(String ahead, String behind, int least, int most, ToLongFunction<PillarDesk> told) {
        Kit.due(ahead + least, told.applyAsLong(taken(ahead + least + behind, lines(ahead + behind))), least);
        Kit.due(ahead + most, told.applyAsLong(taken(ahead + most + behind, lines(ahead + behind))), most);
        if (least > 0) {
            refused(ahead + (least - 1) + behind, 3, ahead.length());
            refused(ahead + 0 + behind, 3, ahead.length());
        }
        if (most < 999) {
            refused(ahead + (most + 1) + behind, 3, ahead.length());
            refused(ahead + 999 + behind, 3, ahead.length());
        }
        refused(ahead + 1000 + behind, 1, ahead.length());
        refused(ahead + "-1" + behind, 2, ahead.length());
    }

    private static int lines(String text) {
        int found = 0;
        for (char c : text.toCharArray()) {
            found += c == ';' ? 1 : 0;
        }
        return found;
    }

    private static void boundsOfTheHead() {
        bounds("desk first ", " curve 0 shift 0;", 0, 6, x -> x.count(3));
        bounds("desk first 0 curve ", " shift 0;", 0, 1, x -> x.count(4));
        bounds("desk first 0 curve 0 shift ", ";", 0, 9, x -> x.count(5));
    }

    private static void boundsOfLines() {
        // The first day that the law finds to be a holiday.
        bounds(HEAD + "opens : holiday = 1;holiday ", ";", 0, 999, x -> x.open(0) == 1 ? 0 : x.business(0, 1));
        bounds(HEAD + "flow ", " plus 3;", 0, 999, x -> x.flow(0, 0));
        bounds(HEAD + "flow ", " minus 3;", 0, 999, x -> x.flow(0, 0));
        bounds(HEAD + "flow 5 plus ", ";", 0, 999, x -> x.flow(0, 1));
        bounds(HEAD + "flow 5 minus ", ";", 0, 999, x -> -x.flow(0, 1));
        bounds(HEAD + "deposit 91 rate 5;rates : ", ";", 0, 999, x -> x.input(0, 6));
    }

    private static void boundsOfInputs() {
        bounds(HEAD + "deposit ", " rate 5;", 1, 999, x -> x.input(0, 2));
        bounds(HEAD + "deposit 5 rate ", ";", 0, 999, x -> x.input(0, 5));
        bounds(HEAD + "forward ", " 999 rate 5;", 0, 998, x -> x.input(0, 1));
        bounds(HEAD + "forward 0 ", " rate 5;", 1, 999, x -> x.input(0, 2));
        bounds(HEAD + "forward 500 ", " rate 5;", 501, 999, x -> x.input(0, 2));
        bounds(HEAD + "forward 998 ", " rate 5;", 999, 999, x -> x.input(0, 2));
        bounds(HEAD + "forward 5 9 rate ", ";", 0, 999, x -> x.input(0, 5));
        bounds(HEAD + "swap ", " every 30 rate 5;", 1, 999, x -> x.input(0, 2));
        bounds(HEAD + "swap 5 every ", " rate 5;", 30, 999, x -> x.input(0, 7));
        bounds(HEAD + "swap 5 every 30 rate ", ";", 0, 999, x -> x.input(0, 5));
    }

    // ---- "12 at most (alike ones, too)", "8 at most", "10 at most", and the fault of one more

    private static void atMostSoMany() {
        String holidays = "holiday 7;".repeat(12);
        Kit.due("twelve alike", taken(HEAD + holidays, 13).count(2), 12);
        refusedLine(holidays + "holiday 7;", 4, holidays.length());
        refusedLine(holidays + "holiday", 4, holidays.length());
        String[] inputs = {"deposit 9 rate 1;", "forward 8 9 rate 1;", "swap 9 every 30 rate 1;"};
        String eight = inputs[0] + inputs[1] + inputs[2] + inputs[0] + inputs[1] + inputs[2] + inputs[0] + inputs[1];
        Kit.due("eight of all kinds", taken(HEAD + eight, 9).count(0), 8);
        for (String ninth : inputs) {
            Kit.due("eight of one kind", taken(HEAD + ninth.repeat(8), 9).count(0), 8);
            refusedLine(eight + ninth, 4, eight.length());
            refusedLine(eight + ninth.substring(0, ninth.indexOf(' ')), 4, eight.length());
        }
        String[] flows = {"flow 9 plus 1;", "flow 9 minus 1;"};
        for (String last : flows) {
            String ten = flows[0].repeat(5) + flows[1].repeat(5);
            Kit.due("ten", taken(HEAD + ten, 11).count(1), 10);
            refusedLine(ten + last, 4, ten.length());
        }
        String all = holidays + eight + flows[0].repeat(10);
        taken(HEAD + all, 31);
        taken(HEAD + all + "rates:1;opens:1=1;".repeat(2), 35);
        refusedLine(all + "rates:1;opens:1=1;flow 1 plus 1;", 4, all.length() + 18);
    }

    private static void numberedFromZero() {
        PillarDesk x = taken(HEAD + "swap 9 every 30 rate 1;flow 5 plus 1;deposit 8 rate 2;forward 3 7 rate 3;flow 6 minus 2;", 6);
        int[] kinds = {2, 0, 1};
        for (int i = 0; i < 3; i++) {
            Kit.due("all kinds together: kind of " + i, x.input(i, 0), kinds[i]);
            Kit.due("all kinds together: rate of " + i, x.input(i, 5), i + 1);
        }
        Kit.due("flow 0", x.flow(0, 0), 5);
        Kit.due("flow 1", x.flow(1, 0), 6);
        Kit.due("minus: less than 0", x.flow(1, 1), -2);
    }

    // ---- "Later ones of rates, opens strike."

    private static void laterLawsStrike() {
        PillarDesk x = taken(HEAD + "deposit 5 rate 1;rates : 11;opens : date = 3;rates : 22;opens : date = 4;", 6);
        Kit.due("the later of two rates", x.input(0, 6), 22);
        Kit.due("the earlier of two opens", x.open(3), 0);
        Kit.due("the later of two opens", x.open(4), 1);
        PillarDesk three = taken(HEAD + "rates : 11;rates : 22;rates : 33;deposit 5 rate 1;", 5);
        Kit.due("the latest of three", three.input(0, 6), 33);
        Kit.due("opens strikes no rates", taken(HEAD + "rates : 11;opens : 1 = 1;deposit 5 rate 1;", 4).input(0, 6), 11);
        Kit.due("rates strikes no opens", taken(HEAD + "opens : date = 3;rates : 1;", 3).open(0), 0);
    }

    // ---- "At most six of not [ ( if within one another.", "4 .. a seventh of not [ ( if."

    private static final String[] NESTS = {"not ", "[", "(", "if "};

    private static void sixWithinOneAnother() {
        for (int which = 0; which < 4096; which++) {
            List<Integer> six = digits(which, 6);
            PillarDesk x = new PillarDesk();
            String text = HEAD + "opens : " + nest(six, 0, true) + ";";
            Kit.due(text, Kit.tell(x, text), 2);
            for (int seventh = 0; seventh < 4; seventh++) {
                seventhRefused(x, six, seventh);
            }
        }
    }

    private static void seventhRefused(PillarDesk x, List<Integer> six, int seventh) {
        List<Integer> seven = new ArrayList<>(six);
        seven.add(seventh);
        String text = HEAD + "opens : " + nest(seven, 0, true) + ";";
        if (text.length() > 900 || (six.get(5) == 2 && seventh < 2)) {
            return;
        }
        int place = HEAD.length() + 8;
        for (int k : six) {
            place += NESTS[k].length();
        }
        Kit.due(text, Kit.tell(x, text), -34);
        Kit.due(text + " fault(1)", x.fault(1), place);
        Kit.due("all stays", x.count(9), 2);
    }

    private static List<Integer> digits(int which, int many) {
        List<Integer> found = new ArrayList<>();
        for (int k = 0; k < many; k++) {
            int sort = which >> 2 * k & 3;
            // Behind ( only a sum can stand.
            found.add(k > 0 && found.get(k - 1) == 2 && sort < 2 ? sort + 2 : sort);
        }
        return found;
    }

    private static String nest(List<Integer> sorts, int at, boolean truth) {
        if (at == sorts.size()) {
            return truth ? "1=1" : "1";
        }
        int sort = sorts.get(at);
        switch (sort) {
            case 0: return "not " + nest(sorts, at + 1, true);
            case 1: return "[" + nest(sorts, at + 1, true) + "]";
            case 2: return "(" + nest(sorts, at + 1, false) + ")" + (truth ? "=1" : "");
            default: return "if " + nest(sorts, at + 1, true) + " then 1 else 1 end" + (truth ? "=1" : "");
        }
    }

    private static void sixOneBehindTheOther() {
        taken(HEAD + "rates : " + "((((((1))))))*".repeat(8) + "((((((1))))));", 2);
        taken(HEAD + "opens : " + "not ".repeat(6) + "1=1 and " + "not ".repeat(6) + "1=1 or [[[[[[1=1]]]]]];", 2);
        String then = "if 1=1 then ";
        taken(HEAD + "rates : " + then.repeat(6) + "1" + " else 2 end".repeat(6) + ";", 2);
        refused(HEAD + "rates : " + then.repeat(7) + "1" + " else 2 end".repeat(7) + ";", 4, HEAD.length() + 8 + 6 * then.length());
        String otherwise = "if 1=1 then 1 else ";
        taken(HEAD + "rates : " + otherwise.repeat(6) + "1" + " end".repeat(6) + ";", 2);
        refused(HEAD + "rates : " + otherwise.repeat(7) + "1" + " end".repeat(7) + ";", 4, HEAD.length() + 8 + 6 * otherwise.length());
        // On the right of = and of * as deep as on the left.
        taken(HEAD + "opens : [[[[[1=(1)]]]]];", 2);
        refusedLine("opens : [[[[[[1=(1)]]]]]];", 4, 16);
        refusedLine("opens : [[[[[[1=1 and [1=1]]]]]]];", 4, 22);
        refusedLine("opens : [[[[[[1=1 or not 1=1]]]]]];", 4, 21);
        refusedLine("rates : ((((((1*(1)))))));", 4, 16);
        refusedLine("rates : ((((((1-if 1=1 then 1 else 1 end))))));", 4, 16);
        refusedLine("rates : if 1=1 then ((((((1)))))) else 1 end;", 4, 25);
        refusedLine("rates : if 1=1 then 1 else ((((((1)))))) end;", 4, 32);
        taken(HEAD + "rates : if 1=1 then (((((1))))) else (((((1))))) end;", 2);
    }

    // ---- "TOKENS, as long as they go on, between them blanks (10, 32): words .. N .. the signs"

    private static void everyByte() {
        for (int b = 0; b < 256; b++) {
            char c = (char) b;
            String text = HEAD + c;
            if (b == 10 || b == 32) {
                taken(text, 1);
            } else if (c >= 'a' && c <= 'z' || c >= '0' && c <= '9' || ";:+-*()[]=<>".indexOf(c) >= 0) {
                refused(text, 2, HEAD.length());
            } else {
                refused(text, 1, HEAD.length());
            }
        }
    }

    private static void numbersOfDigits() {
        Kit.due("one digit", taken(HEAD + "flow 1 plus 7;", 2).flow(0, 1), 7);
        Kit.due("two digits", taken(HEAD + "flow 1 plus 07;", 2).flow(0, 1), 7);
        Kit.due("three digits", taken(HEAD + "flow 1 plus 007;", 2).flow(0, 1), 7);
        refusedLine("flow 1 plus 0007;", 1, 12);
        refusedLine("flow 1 plus 00007;", 1, 12);
        refusedLine("flow 0001 plus 7;", 1, 5);
        Kit.due("000", taken(HEAD + "flow 000 plus 7;", 2).flow(0, 0), 0);
        refusedLine("flow 1 plus 1 2;", 2, 14);
    }

    private static void asLongAsTheyGoOn() {
        taken("desk first0curve0shift0;holiday3;", 2);
        refused("deskfirst 0 curve 0 shift 0;", 2, 0);
        refused("des k first 0 curve 0 shift 0;", 2, 0);
        refusedLine("holiday 3holiday 4;", 2, 9);
        refusedLine("flow 1 plusminus 3;", 2, 7);
        taken("\n\n desk\nfirst\n0 \n curve 1 shift 2\n;\n\n", 1);
        taken(HEAD + "rates:told+1*2-(3);opens:week<5;", 3);
        // What lies behind the first n bytes doesn't go on with a token.
        PillarDesk x = new PillarDesk();
        String text = HEAD + "flow 1 plus 12;flow 2 plus 3;";
        Kit.feed(x, text);
        Kit.due("a number cut off", x.desk(HEAD.length() + 13), -32);
        Kit.due("its end", x.fault(1), HEAD.length() + 13);
        Kit.feed(x, HEAD + "holiday 1234;");
        Kit.due("four digits cut to three", x.desk(HEAD.length() + 11), -32);
        Kit.due("their end", x.fault(1), HEAD.length() + 11);
        Kit.feed(x, HEAD + "holiday 1234;");
        Kit.due("four digits", x.desk(HEAD.length() + 12), -31);
        Kit.due("at their first", x.fault(1), HEAD.length() + 8);
    }

    // ---- "FAULTS, the first along the text, of one TOKEN the least kind"

    private static void firstAlongTheText() {
        refusedLine("deposit 0 rate ?", 3, 8);
        refusedLine("deposit ? rate 5;deposit 0", 1, 8);
        refusedLine("holiday;deposit 0 rate 1234;", 2, 7);
        refusedLine("holiday 1;".repeat(13) + "?", 4, 120);
        refusedLine("holiday 1;".repeat(12) + "deposit 0 rate 5;holiday 1;", 3, 128);
        refusedLine("forward 999 5 rate 1;", 3, 8);
        refusedLine("forward 9 9 rate 1000;", 3, 10);
        refusedLine("swap 0 every 29 rate 1;", 3, 5);
        refusedLine("swap 5 every 29 rate x;", 3, 13);
        refused("desk first 7 curve 2 shift 99;", 3, 11);
        refused("desk first 6 curve 2 shift 99;", 3, 19);
        refused("desk first 6 curve 1 shift 99;", 3, 27);
        refused("first 7", 2, 0);
    }

    private static void leastKindOfOneToken() {
        // 1 ahead of 2: no N can stand there, and this is none.
        refusedLine("1234;", 1, 0);
        refused("desk 1234", 1, 5);
        // 1 ahead of 3.
        refusedLine("deposit 0000 rate 1;", 1, 8);
        // 2 ahead of 3: an N out of all bounds of the place that comes next.
        refused("desk 7 first", 2, 5);
        refused("desk first 0 2 curve", 2, 13);
        // 2 ahead of 4: a seventh, where none can stand.
        refusedLine("rates : (((((([", 2, 14);
        refusedLine("rates : ((((((not", 2, 14);
        refusedLine("rates : ((((((1(", 2, 15);
        refusedLine("rates : ((((((1 if", 2, 16);
        refusedLine("opens : [[[[[[1=[", 2, 16);
        refusedLine("opens : [[[[[[1=not 1", 2, 16);
        refusedLine("opens : [[[[[[1=1[", 2, 17);
        refusedLine("opens : [[[[[[1=1 not", 2, 18);
        refusedLine("opens : [[[[[[1(", 2, 15);
        // 2 ahead of 4: a 13th holiday, a 9th input, an 11th flow, where no line begins.
        refusedLine("holiday 1;".repeat(12) + "holiday holiday", 4, 120);
        refusedLine("holiday 1;".repeat(11) + "holiday holiday", 2, 118);
        refusedLine("deposit 1 rate 1;".repeat(8) + "flow 1 deposit", 2, 143);
        refusedLine("flow 1 plus 1;".repeat(10) + "holiday flow", 2, 148);
        // 4 at the first token of the line, whatever comes behind it.
        refusedLine("holiday 1;".repeat(12) + "holiday 1234;", 4, 120);
        refusedLine("deposit 1 rate 1;".repeat(8) + "forward 5 5 rate 1;", 4, 136);
        refusedLine("flow 1 plus 1;".repeat(10) + "flow", 4, 140);
        refusedLine("rates : ((((((( ?", 4, 14);
    }

    private static void theEnd() {
        refused("", 2, 0);
        refused("   ", 2, 3);
        refused("desk first 0 curve 0 shift 0  \n ", 2, 32);
        refusedLine("holiday 1  ", 2, 11);
        refusedLine("rates : 1 + ", 2, 12);
        refusedLine("opens : not", 2, 11);
        refusedLine("opens : [[[[[[", 2, 14);
        PillarDesk x = new PillarDesk();
        Kit.feed(x, HEAD + "holiday 1;");
        Kit.due("the end of what is read, not of the tape", x.desk(HEAD.length() + 9), -32);
        Kit.due("its place", x.fault(1), HEAD.length() + 9);
    }

    private static void deskFirstAndOnce() {
        refused("holiday 1;" + HEAD, 2, 0);
        refused(";" + HEAD, 2, 0);
        refused(HEAD + HEAD, 2, HEAD.length());
        refused(HEAD + "holiday 1;" + HEAD, 2, HEAD.length() + 10);
        taken(HEAD, 1);
    }

    private static void wordsOfTheOtherLaw() {
        for (String word : new String[] {"told", "days", "kind", "shift", "input"}) {
            taken(HEAD + "rates : " + word + ";", 2);
            refusedLine("opens : " + word + " = 1;", 2, 8);
            refusedLine("opens : 1 = " + word + ";", 2, 12);
            taken(HEAD + "rates : if " + word + " = 1 then 1 else 2 end;", 2);
        }
        for (String word : new String[] {"week", "holiday", "date"}) {
            taken(HEAD + "opens : " + word + " = 1;", 2);
            refusedLine("rates : " + word + ";", 2, 8);
            refusedLine("rates : if " + word + " = 1 then 1 else 2 end;", 2, 11);
            taken(HEAD + "opens : if 1 = 1 then " + word + " else 2 end = 1;", 2);
        }
        taken(HEAD + "opens : week = 1;rates : told;opens : date = 1;", 4);
        refusedLine("opens : week = 1;rates : week;", 2, 25);
        refusedLine("rates : told;opens : told = 1;", 2, 21);
    }
}
