/** Promises 11 to 15: the tape, laws, judgements and their faults. */
public final class TextTest {
    public static void main(String[] args) {
        feed();
        end();
        laws();
        judgement();
        fault();
        tokens();
        faultsOfLaws();
        faultsOfJudgements();
        longTexts();
        values();
        TestTools.close();
    }

    /** Promise 11. */
    private static void feed() {
        OneBarrel x = new OneBarrel();
        x.looker(0);
        x.found();
        // "same", " 1=1", ";not", " 1=1", ";   ": of each number the highest byte comes first.
        TestTools.due("feed", x.feed(0x73616D65, 0x20313D31, 0x3B6E6F74, 0x20313D31, 0x3B202020), 20);
        TestTools.due("two lines", x.judgement(0), 2);
        TestTools.due("same comes first", x.says(0, 0, 0, false), 1);
        for (int n = 1; n <= 30; n++) {
            TestTools.due("feed " + n, x.feed(0x20202020, 0x20202020, 0x20202020, 0x20202020, 0x20202020), 20 * n);
        }
        TestTools.due("600 at most", x.feed(1, 2, 3, 4, 5), -1);
        TestTools.due("nothing came", x.laws(), 0);
        x.feed(0, 0, 0, 0, 0);
        for (int n = 0; n < 29; n++) {
            x.feed(0x20202020, 0x20202020, 0x20202020, 0x20202020, 0x20202020);
        }
        x.end(581);
        TestTools.due("581 and 20", x.feed(1, 2, 3, 4, 5), -1);
        x.end(580);
        TestTools.due("580 and 20", x.feed(0x20202020, 0x20202020, 0x20202020, 0x20202020, 0x20202020), 600);
    }

    /** Promise 12. */
    private static void end() {
        OneBarrel x = new OneBarrel();
        TestTools.due("end(0) of an empty tape", x.end(0), true);
        x.feed(0x63757420, 0x313B6375, 0x7420323B, 0x20202020, 0x20202020);
        TestTools.due("end(21)", x.end(21), false);
        TestTools.due("end(-1)", x.end(-1), false);
        TestTools.due("end(MIN)", x.end(Integer.MIN_VALUE), false);
        TestTools.due("end(20)", x.end(20), true);
        TestTools.due("end(6)", x.end(6), true);
        TestTools.due("end(7)", x.end(7), false);
        TestTools.due("feed behind it", x.feed(0x20202020, 0x20202020, 0x20202020, 0x20202020, 0x20202020), 26);
        TestTools.due("one line was left", x.laws(), 1);
        x.feed(0, 0, 0, 0, 0);
        TestTools.due("end(0)", x.end(0), true);
        TestTools.due("nothing was left", x.laws(), 0);
        // What stood behind the end is no part of the last token.
        x.feed(0x63757420, 0x31323334, 0x35363738, 0x20202020, 0x20202020);
        x.end(8);
        TestTools.due("an open line", x.laws(), -1);
        TestTools.due("the number has four digits", x.fault(1), 8);
    }

    /** As many tokens as there are bytes, and long texts again and again. */
    private static void longTexts() {
        isLaw(";".repeat(600), 1, 0);
        isLaw("cut 1" + "+1".repeat(297), 1, 599);
        isLaw("cut 1" + "+1".repeat(296) + ";  ", 0, -1);
        isLaw("cut 1+" + "1+".repeat(296) + "1;", 0, -1);
        isLaw("cut " + "1*".repeat(297) + "1;", 0, -1);
        isLaw("cut 1 when 1=1" + "and 1=1".repeat(83) + ";    ", 0, -1);
        isLaw("cut 1 when 1=1" + "or 1=1".repeat(97) + ";   ", 0, -1);
        OneBarrel x = new OneBarrel();
        x.looker(0);
        x.found();
        for (int n = 0; n < 4; n++) {
            TestTools.due("long laws", TestTools.laws(x, "cut 1" + "+1".repeat(29 + n) + ";" + " ".repeat(500)), 1);
            TestTools.due("a long judgement",
                    TestTools.judgement(x, 0, "same " + n + "=1" + "+0".repeat(290) + ";"), 1);
            TestTools.due("what it says", x.says(0, 0, 0, false), n == 1 ? 1 : 2);
        }
        x.tool(0);
        x.barrel(0);
        TestTools.due("what they tell", x.at(0, 0, 0), 33);
        // Short lines behind long ones: nothing of the long ones is left.
        for (int n = 0; n < 3; n++) {
            TestTools.laws(x, "cut 1" + "+1".repeat(250) + "; cut 5 when at<0" + "+1".repeat(20) + "; cut 6;");
        }
        TestTools.laws(x, "cut 1 when at < 0; cut 7 when at < 1; cut 8;");
        x.barrel(0);
        TestTools.due("the second line", x.at(0, 0, 0), 7);
        TestTools.due("the third line", x.at(0, 0, 1), 8);
        TestTools.laws(x, "cut 1 when at < 0;".repeat(15) + "cut 1 + 2 * high when at = 0 and (at = 1 or 2 * 3 > 5);");
        x.barrel(0);
        TestTools.due("the sixteenth line", x.at(0, 0, 0), 15);
        for (int n = 0; n < 4; n++) {
            TestTools.laws(x, "cut 0" + "+0".repeat(290) + "+" + n + ";");
            x.barrel(0);
            TestTools.due("what they tell at last", x.at(0, 0, 0), n);
        }
    }

    /** Promise 13. */
    private static void laws() {
        OneBarrel x = new OneBarrel();
        TestTools.due("lines", TestTools.laws(x, "cut 1;\nwear 2 when at = 1; take 3;"), 3);
        TestTools.due("the tape is empty then", x.end(1), false);
        TestTools.due("a fault", TestTools.laws(x, "cut 5; cut"), -1);
        TestTools.due("the tape is empty then too", x.end(1), false);
        TestTools.due("they stay", x.look(5), 3);
        x.tool(0);
        x.barrel(0);
        TestTools.due("as they were", x.at(0, 0, 0), 1);
        TestTools.due("an empty tape", x.laws(), 0);
        TestTools.due("no laws", x.look(5), 0);
        x.barrel(0);
        TestTools.due("an edge without laws", x.at(0, 0, 0), 1);
        TestTools.due("16 lines", TestTools.laws(x, "cut 7;".repeat(16)), 16);
        TestTools.due("17 lines", TestTools.laws(x, "cut 8;".repeat(17)), -1);
        TestTools.due("16 stay", x.look(5), 16);
    }

    /** Promise 14. */
    private static void judgement() {
        OneBarrel x = new OneBarrel();
        x.found();
        x.found();
        TestTools.due("no looker", TestTools.judgement(x, 0, "same 1=1;"), -1);
        TestTools.due("fault() tells 0", x.fault(0), 0);
        TestTools.due("and no place", x.fault(1), -1);
        TestTools.due("the tape is empty then", x.end(1), false);
        x.looker(0);
        x.looker(0);
        TestTools.due("empty at first", x.says(1, 0, 1, false), 2);
        TestTools.due("lines", TestTools.judgement(x, 1, "not 1=2; not 1=1; same 1=1;"), 3);
        TestTools.due("his", x.says(1, 0, 1, false), 0);
        TestTools.due("not the other's", x.says(0, 0, 1, false), 2);
        TestTools.due("a fault", TestTools.judgement(x, 1, "same 1=1; same"), -1);
        TestTools.due("its fault", x.fault(0), 1);
        TestTools.due("it stays as it was", x.says(1, 0, 1, false), 0);
        TestTools.due("looker 2", TestTools.judgement(x, 2, "bad"), -1);
        TestTools.due("no fault behind one", x.fault(0), 0);
        TestTools.due("nor its place", x.fault(1), -1);
        TestTools.due("looker -1", x.judgement(-1), -1);
        TestTools.due("told anew", TestTools.judgement(x, 1, "same 1=1;"), 1);
        TestTools.due("says by the new one", x.says(1, 0, 1, false), 1);
        TestTools.due("an empty one", x.judgement(1), 0);
        TestTools.due("can't say", x.says(1, 0, 1, false), 2);
        TestTools.due("laws are no part of it", x.look(5), 0);
    }

    /** Promise 15. */
    private static void fault() {
        OneBarrel x = new OneBarrel();
        x.looker(0);
        TestTools.laws(x, "cut");
        TestTools.due("fault", x.fault(0), 1);
        TestTools.due("place", x.fault(1), 3);
        TestTools.due("what 2", x.fault(2), -1);
        TestTools.due("what -1", x.fault(-1), -1);
        x.found();
        x.feed(0x20202020, 0, 0, 0, 0);
        TestTools.due("of the latest", x.fault(0), 1);
        x.end(0);
        TestTools.judgement(x, 0, "same best / 0 = 1;");
        TestTools.due("of a judgement", x.fault(0), 2);
        TestTools.due("its place", x.fault(1), 12);
        x.laws();
        TestTools.due("without one", x.fault(0), 0);
        TestTools.due("no place", x.fault(1), -1);
    }

    private static void tokens() {
        isLaw("cut at;", 0, -1);
        isLaw("  \n cut\n\n1 ;  \n", 0, -1);
        isLaw("cut 1when 1=1and 2=2or 3=3;", 0, -1);
        isLaw("cut 1 when(1=1);cut 2;", 0, -1);
        isLaw("cut 9999;", 0, -1);
        isLaw("cut 0000;", 0, -1);
        isLaw("cut 10000;", 1, 4);
        isLaw("cut 00001;", 1, 4);
        isLaw("cuts 1;", 1, 0);
        isLaw("cutat;", 1, 0);
        isLaw("Cut 1;", 1, 0);
        isLaw("cuT 1;", 1, 0);
        isLaw("cutz 1;", 1, 0);
        isLaw("cutA 1;", 1, 0);
        isLaw("cutZ 1;", 1, 0);
        isLaw("cut[ 1;", 1, 3);
        isLaw("cut@ 1;", 1, 3);
        isLaw("cut` 1;", 1, 3);
        isLaw("cut{ 1;", 1, 3);
        isLaw("cut 1: 1;", 1, 5);
        isLaw("cut 1x;", 1, 5);
        isLaw("cut 1\t;", 1, 5);
        isLaw("cut 1\r\n;", 1, 5);
        isLaw("cut 1 2;", 1, 6);
        isLaw("cut 1.5;", 1, 5);
        isLaw("cut \u00e9;", 1, 4);
        isLaw("cut \u0000;", 1, 4);
        isLaw("cut \u0001;", 1, 4);
        isLaw("\u0000", 1, 0);
        isLaw("", 0, -1);
        isLaw("   ", 0, -1);
    }

    private static void faultsOfLaws() {
        isLaw("cut ", 1, 4);
        isLaw("cut   \n", 1, 7);
        isLaw("cut 1", 1, 5);
        isLaw(";", 1, 0);
        isLaw("cut 1;;", 1, 6);
        isLaw("cut 1 when;", 1, 10);
        isLaw("cut 1 when 1;", 1, 12);
        isLaw("cut 1 when 1 = ;", 1, 15);
        isLaw("cut 1 when 1 = 1 = 1;", 1, 17);
        isLaw("cut 1 when 1 = 1 and;", 1, 20);
        isLaw("cut 1 when 1 = 1 or or 1 = 1;", 1, 20);
        isLaw("cut 1 when (1) = 1;", 1, 13);
        isLaw("cut 1 when (1 = 1;", 1, 17);
        isLaw("cut 1 when 1 = 1);", 1, 16);
        isLaw("cut 1 when no;", 1, 13);
        isLaw("cut 1 when 1 = no 1 = 1;", 1, 15);
        isLaw("cut (1);", 1, 4);
        isLaw("cut -1;", 1, 4);
        isLaw("cut 1 +;", 1, 7);
        isLaw("cut 1 * ;", 1, 8);
        isLaw("cut 6 / at;", 1, 8);
        isLaw("cut 6 / ;", 1, 8);
        isLaw("cut 6 / 0;", 2, 8);
        isLaw("cut 6 / 0000 bad", 2, 8);
        isLaw("cut 6 / 00000;", 1, 8);
        isLaw("cut 6 / 2 / 3 * 4 / 5;", 0, -1);
        isLaw("cut 0 * 0;", 0, -1);
        isLaw("cut best;", 1, 4);
        isLaw("cut told;", 1, 4);
        isLaw("cut cut;", 1, 4);
        isLaw("cut when 1 = 1;", 1, 4);
        isLaw("same 1 = 1;", 1, 0);
        isLaw("cut 1 when not 1 = 1;", 1, 11);
        isLaw("cut 1 when 1 = 1 when 1 = 1;", 1, 17);
        isLaw("cut 1 when " + "(".repeat(8) + "1=1" + ")".repeat(8) + ";", 0, -1);
        isLaw("cut 1 when " + "(".repeat(9) + "1=1" + ")".repeat(9) + ";", 3, 19);
        isLaw("cut 1 when " + "no ".repeat(8) + "1=1;", 0, -1);
        isLaw("cut 1 when " + "no ".repeat(9) + "1=1;", 3, 35);
        isLaw("cut 1 when " + "no(".repeat(4) + "1=1" + ")".repeat(4) + ";", 0, -1);
        isLaw("cut 1 when " + "no(".repeat(4) + "no 1=1" + ")".repeat(4) + ";", 3, 23);
        isLaw("cut 1 when " + "no(".repeat(4) + "(1=1" + ")".repeat(5) + ";", 3, 23);
        isLaw("cut 1 when " + "no(1=1) and ".repeat(9) + "1=1;", 0, -1);
        isLaw("cut 1 when " + "no no 1=1 or ".repeat(9) + "no 1=1;", 0, -1);
        isLaw("cut 1 when " + "(".repeat(8) + "1=1) and no 1=1" + ")".repeat(7) + ";", 0, -1);
        isLaw("cut 1;".repeat(16), 0, -1);
        isLaw("cut 1;".repeat(16) + "take 1;", 3, 96);
        isLaw("cut 1;".repeat(16) + "  wear", 3, 98);
        isLaw("cut 1;".repeat(16) + "when", 1, 96);
        isLaw("cut 1;".repeat(15) + "cut;" + "cut 1;", 1, 93);
    }

    private static void faultsOfJudgements() {
        isJudgement("same best > 1 and longest > 2 or slide = 3 and pieces < 4 and lack = 5 or told = 1;", 0, -1);
        isJudgement("not no(best/2=1);", 0, -1);
        isJudgement("", 0, -1);
        isJudgement("same", 1, 4);
        isJudgement("same ;", 1, 5);
        isJudgement("same 1;", 1, 6);
        isJudgement("same 1 = 1 when 1 = 1;", 1, 11);
        isJudgement("same when 1 = 1;", 1, 5);
        isJudgement("cut 1;", 1, 0);
        isJudgement("same high = 1;", 1, 5);
        isJudgement("same soft = 1;", 1, 5);
        isJudgement("same 1 = best / 0;", 2, 16);
        isJudgement("not 1 = 1;".repeat(16) + "same 1 = 1;", 3, 160);
        isJudgement("not " + "(".repeat(9), 3, 12);
        isJudgement("not " + "(".repeat(8), 1, 12);
    }

    private static void isLaw(String text, int fault, int place) {
        OneBarrel x = new OneBarrel();
        int lines = TestTools.laws(x, text);
        TestTools.due("laws of '" + text + "' fail", lines == -1, fault != 0);
        TestTools.due("fault of '" + text + "'", x.fault(0), fault);
        TestTools.due("place in '" + text + "'", x.fault(1), place);
    }

    private static void isJudgement(String text, int fault, int place) {
        OneBarrel x = new OneBarrel();
        x.looker(0);
        int lines = TestTools.judgement(x, 0, text);
        TestTools.due("judgement of '" + text + "' fails", lines == -1, fault != 0);
        TestTools.due("fault of '" + text + "'", x.fault(0), fault);
        TestTools.due("place in '" + text + "'", x.fault(1), place);
    }

    private static void values() {
        isValue("2 + 3 * 4", 14);
        isValue("20 - 3 - 2", 15);
        isValue("20 - 3 + 2", 19);
        isValue("7 / 2 * 2", 6);
        isValue("7 / 1", 7);
        isValue("7 / 0007", 1);
        isValue("2 * 7 / 2", 7);
        isValue("20 + (0", -1);
        isValue("40 - 7 * 3 / 2", 30);
        // 0 - 7 is -7, and a part of it goes towards 0.
        isValue("10 + 3 * 0 - 7 / 2", 7);
        isValue("0 - 7 + 10", 3);
        isValue("9999 * 9999 * 9999 * 9999 / 9999 + 9999", wrapped());
        isSo("1 < 2", true);
        isSo("2 < 2", false);
        isSo("2 = 2", true);
        isSo("2 > 2", false);
        isSo("3 > 2", true);
        isSo("1 = 1 or 1 = 1 and 1 = 2", true);
        isSo("(1 = 1 or 1 = 1) and 1 = 2", false);
        isSo("1 = 2 and 1 = 1 or 1 = 1", true);
        isSo("no 1 = 2 and 1 = 2", false);
        isSo("no (1 = 2 and 1 = 2)", true);
        isSo("no no 1 = 1", true);
        isSo("no 1 = 1", false);
        isSo("no no no 1 = 1", false);
        isSo("no 1 < 2 and 3 > 2", false);
        isSo("3 > 2 and 1 = 1 and 1 < 2", true);
        isSo("no 1 = 1 or 1 = 1", true);
        isSo("0 - 7 / 2 = 0 - 3", true);
        isSo("at - 37 / 2 < 0", true);
        isSo("1 - 2 < 0", true);
        isSo("9999 * 9999 * 22 < 0", true);
        isSo("(((1 = 1 and 1 = 1) and 1 = 1) and (1 = 2 or (1 = 2 or (1 = 1))))", true);
        isSo("1 + 2 * 3 = 7 and (1=2 or 2=2 and (1=2 or 2=2 and (1=2 or 2=2 and (1=2 or 2=2 and "
                + "(1=2 or 2=2 and (1=2 or 2=2 and (1=2 or 2=2 and (1=2 or 2=2 and 1 + 2 * 3 < 1 + 2 * 4))))))))", true);
    }

    private static int wrapped() {
        int v = 9999 * 9999 * 9999 * 9999 / 9999 + 9999;
        return Math.max(0, Math.min(63, v));
    }

    private static void isValue(String text, int want) {
        OneBarrel x = new OneBarrel();
        x.tool(0);
        boolean isRead = TestTools.laws(x, "cut " + text + ";") == 1;
        x.barrel(0);
        TestTools.due("value of " + text, isRead ? x.at(0, 0, 0) : -1, want);
    }

    private static void isSo(String text, boolean want) {
        OneBarrel x = new OneBarrel();
        x.tool(0);
        TestTools.due("lines", TestTools.laws(x, "cut 1 when " + text + "; cut 2;"), 2);
        x.barrel(0);
        TestTools.due(text, x.at(0, 0, 0), want ? 1 : 2);
    }
}
