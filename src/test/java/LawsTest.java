/** Promises 1 to 5: a new object, THE TAPE, THE LAWS and their FAULTS. */
public final class LawsTest {
    private static final Check check = new Check("LawsTest");
    private static final String HEAD = "time 5;golden 3;";

    public static void main(String[] args) {
        newObject();
        feeding();
        ending();
        soundTexts();
        syntaxFaults();
        nameFaults();
        roomFaults();
        faultsOfOneToken();
        lawsAsAct();
        textNotLookedAt();
        latestText();
        cutTexts();
        wholeRoomIsWorked();
        leftoversOfFaults();
        check.end();
    }

    private static void newObject() {
        JudoHall x = new JudoHall();
        int[] want = {0, 0, 10, 0, 0, 0, 0, 0, 0};
        for (int k = 0; k < want.length; k++) check.due("new count(" + k + ")", x.count(k), want[k]);
        check.due("new fault(0)", x.fault(0), 0);
        check.due("new fault(1)", x.fault(1), Check.NONE);
        check.due("new fault(2)", x.fault(2), Check.NONE);
        check.due("new fault(-1)", x.fault(-1), Check.NONE);
        check.due("new fighter", x.fighter(0, 0), Check.NONE);
        check.due("new about drawn", x.about(0, 2), 0);
        check.due("new about fights", x.about(3, 4), 0);
        check.due("new mat", x.mat(0, 0), Check.NONE);
        check.due("new undo", x.undo(), Check.NONE);
        check.due("new enter", x.enter(15, 3), 0);
        check.due("new upper limit", x.weigh(0, 200000), 1);
        check.due("new lower limit", x.weigh(0, 0), 1);
    }

    private static void feeding() {
        JudoHall x = new JudoHall();
        for (int k = 1; k <= 150; k++) check.due("feed " + k, x.feed(-1, 0x20202020, 0, 0, 0), 20 * k);
        check.due("feed of the 3001st byte", x.feed(0, 0, 0, 0, 0), Check.FULL);
        check.due("bytes", x.count(8), 3000);
        check.due("feed is no ACT", x.count(7), 0);
        x.end(2981);
        check.due("feed of bytes to 3001", x.feed(0, 0, 0, 0, 0), Check.FULL);
        x.end(2980);
        check.due("feed of bytes to 3000", x.feed(0, 0, 0, 0, 0), 3000);
        x.end(0);
        // "time 1;golden 2;" and blanks: only with the highest byte first is this a text
        x.feed(0x74696d65, 0x20313b67, 0x6f6c6465, 0x6e20323b, 0x200a2020);
        check.due("laws of 20 bytes", x.laws(), 0);
        check.due("fault of 20 bytes", x.fault(0), 0);
    }

    private static void ending() {
        JudoHall x = new JudoHall();
        check.due("end(0) of none", x.end(0), 0);
        check.due("end(1) of none", x.end(1), Check.NONE);
        x.feed(1, 2, 3, 4, 5);
        check.due("end(21)", x.end(21), Check.NONE);
        check.due("end(-1)", x.end(-1), Check.NONE);
        check.due("end(MIN)", x.end(Integer.MIN_VALUE), Check.NONE);
        check.due("bytes stay", x.count(8), 20);
        check.due("end(20)", x.end(20), 20);
        check.due("end(7)", x.end(7), 7);
        check.due("bytes", x.count(8), 7);
        check.due("end(8)", x.end(8), Check.NONE);
        check.due("feed behind", x.feed(0, 0, 0, 0, 0), 27);
    }

    /** Lines, signs and PARTS of a text without a FAULT. */
    private static void sound(String text, int lines, int signs, int parts) {
        JudoHall x = new JudoHall();
        check.due(text, Check.laws(x, text), lines);
        check.due("fault of " + text, x.fault(0), 0);
        check.due("place of " + text, x.fault(1), Check.NONE);
        check.due("lines of " + text, x.count(4), lines);
        check.due("signs of " + text, x.count(3), signs);
        check.due("parts of " + text, x.count(5), parts);
        check.due("tape of " + text, x.count(8), 0);
        check.due("log of " + text, x.count(7), 1);
    }

    private static void soundTexts() {
        sound("time 0;golden 0;", 0, 0, 0);
        sound("\n time\n0009 ; golden9999;  \n", 0, 0, 0);
        sound("time0;golden0;sign a;win1when(1=1)or(2>1);", 1, 1, 7);
        sound(HEAD + "sign a;sign abcdefghij;", 0, 2, 0);
        sound(HEAD + "win when over;", 1, 0, 1);
        sound(HEAD + "win 0 when extra;win 9999 when not not extra;", 2, 0, 4);
        sound(HEAD + "sign a;win when mine a+yours a-left<=1-2;", 1, 1, 9);
        sound(HEAD + "win when left<1 and left<=1 or left>1 and left>=1 or left=1 and left!=1;", 1, 0, 23);
        sound(HEAD + "win when ((((((((over))))))));", 1, 0, 1);
        sound(HEAD + "win when not(not(not(not(over))))and not over;", 1, 0, 8);
        sound(HEAD + "win when not not not not not not not not 1<2 and not not not not not not not not over;", 1, 0, 21);
        sound(HEAD + "sign aver;sign bime;sign dign;sign fin;sign ahen;sign ar;sign bnd;sign lot;", 0, 8, 0);
        sound(HEAD + "sign axtra;sign pine;sign zours;sign heft;sign bolden;sign a;sign b;win when mine b=0;", 1, 7, 3);
        sound(HEAD + "sign timer;sign overs;sign wins;win when mine timer=0;", 1, 3, 3);
    }

    /** KIND and PLACE of a text's FAULT. */
    private static void faulty(String text, int kind, int place) {
        JudoHall x = new JudoHall();
        check.due(text, Check.laws(x, text), Check.NONE);
        check.due("kind of " + text, x.fault(0), kind);
        check.due("place of " + text, x.fault(1), place);
        check.due("fault(2) of " + text, x.fault(2), Check.NONE);
        check.due("log of " + text, x.count(7), 0);
        check.due("tape of " + text, x.count(8), 0);
        check.due("lines of " + text, x.count(4), 0);
    }

    private static void syntaxFaults() {
        faulty("", 1, 0);
        faulty("  \n", 1, 3);
        faulty("golden", 1, 0);
        faulty("times", 1, 0);
        faulty("time", 1, 4);
        faulty("time x", 1, 5);
        faulty("time0;golden0;signa;", 1, 14);
        faulty("time 12345;", 1, 5);
        faulty("time 1 golden", 1, 7);
        faulty("time 1;golden 1", 1, 15);
        faulty("time 1;golden 1 ", 1, 16);
        faulty("Time", 1, 0);
        faulty("time\t1", 1, 4);
        faulty("time 1;\0", 1, 7);
        faulty("time 1;" + (char) 200, 1, 7);
        faulty(HEAD + "sign", 1, 20);
        faulty(HEAD + "sign 1;", 1, 21);
        faulty(HEAD + "sign abcdefghijk;", 1, 21);
        faulty(HEAD + "sign a", 1, 22);
        faulty(HEAD + "a", 1, 16);
        faulty(HEAD + ";", 1, 16);
        for (String word : new String[] {"time", "golden", "sign", "win", "when", "not", "over", "extra", "mine", "yours",
            "left", "or", "and"}) {
            faulty(HEAD + "sign " + word + ";", 1, 21);
        }
        faulty(HEAD + "win over;", 1, 20);
        faulty(HEAD + "win 1 2 when over;", 1, 22);
        faulty(HEAD + "win when ;", 1, 25);
        faulty(HEAD + "win when over", 1, 29);
        faulty(HEAD + "win when over over;", 1, 30);
        faulty(HEAD + "win when over;sign a;", 1, 30);
        faulty(HEAD + "win when over);", 1, 29);
        faulty(HEAD + "win when (over;", 1, 30);
        faulty(HEAD + "win when ();", 1, 26);
        faulty(HEAD + "win when over and;", 1, 33);
        faulty(HEAD + "win when or over;", 1, 25);
        faulty(HEAD + "win when not;", 1, 28);
        faulty(HEAD + "win when over + 1 = 1;", 1, 30);
        faulty(HEAD + "win when 1 + over = 1;", 1, 29);
        faulty(HEAD + "win when (1) = 1;", 1, 27);
        faulty(HEAD + "win when 1 + (1) = 1;", 1, 29);
        faulty(HEAD + "win when 1;", 1, 26);
        faulty(HEAD + "win when 1 = 1 = 1;", 1, 31);
        faulty(HEAD + "win when 1 == 1;", 1, 28);
        faulty(HEAD + "win when 1 < = 1;", 1, 29);
        faulty(HEAD + "win when 1 ! 1;", 1, 27);
        faulty(HEAD + "win when 1 ! = 1;", 1, 27);
        faulty(HEAD + "win when -1 = 1;", 1, 25);
        faulty(HEAD + "win when mine left = 1;", 1, 30);
        faulty(HEAD + "win when mine 1 = 1;", 1, 30);
        faulty(HEAD + "win when 1 = 1 not over;", 1, 31);
    }

    private static void nameFaults() {
        faulty(HEAD + "sign a;sign a;", 2, 28);
        faulty(HEAD + "sign ab;sign a;sign ab;", 2, 36);
        faulty(HEAD + "win when mine a=1;", 2, 30);
        faulty(HEAD + "sign ab;win when yours a=1;", 2, 39);
        faulty(HEAD + "sign a;win when mine a=yours abc;", 2, 45);
        faulty(HEAD + "win when x;", 1, 25);
    }

    private static String many(String text, int n) {
        StringBuilder s = new StringBuilder();
        for (int k = 0; k < n; k++) s.append(text);
        return s.toString();
    }

    private static void roomFaults() {
        String signs = "";
        for (int k = 0; k < 8; k++) signs += "sign s" + (char) ('a' + k) + ";";
        sound(HEAD + signs, 0, 8, 0);
        faulty(HEAD + signs + "sign", 3, 16 + 64);
        sound(HEAD + many("win when over;", 20), 20, 0, 20);
        faulty(HEAD + many("win when over;", 20) + " win", 3, 16 + 280 + 1);
        // 75 times 4 PARTS are 300
        String four = "not 1=1 or ";
        sound(HEAD + "win when " + many("1=1 or ", 74) + "1=1;win when over;", 2, 0, 300);
        faulty(HEAD + "win when " + many("1=1 or ", 75) + "over;", 3, 25 + 75 * 7);
        faulty(HEAD + "win when " + many("1=1 or ", 74) + "over and 1=1;", 3, 25 + 74 * 7 + 11);
        faulty(HEAD + "win when over;win when " + many(four, 60) + "over;", 3, 39 + 59 * 11 + 8);
        String full = "sign a;win when not over;win when " + many("1=1 or ", 74);
        int at = 16 + full.length();
        faulty(HEAD + full + "1=1;", 3, at + 2);
        faulty(HEAD + full + "mine a=1;", 3, at + 7);
        faulty(HEAD + full + "over and mine a=1;", 3, at + 9);
        faulty(HEAD + full + "over or not over;", 3, at + 8);
        faulty(HEAD + full + "1+1=1;", 3, at + 2);
        faulty(HEAD + full + "not mine a=1;", 3, at + 10);
        faulty(HEAD + "win when (((((((((over", 3, 25 + 8);
        faulty(HEAD + "win when not(not(not(not(not over", 3, 25 + 16);
        faulty(HEAD + "win when not not not not not not not not not", 3, 25 + 32);
        faulty(HEAD + "win when (((((((over)))))) and ((((((((over", 3, 25 + 22 + 7);
    }

    private static void faultsOfOneToken() {
        // the 21st "win" where none may stand, the 301st PART with a wrong name behind it
        faulty(HEAD + many("win when over;", 19) + "win when win", 1, 16 + 266 + 9);
        String full = "win when not over;win when " + many("1=1 or ", 74) + "over and ";
        faulty(HEAD + full + "mine zz=1;", 3, 16 + full.length());
        faulty(HEAD + full + "+", 1, 16 + full.length());
        faulty(HEAD + "win when (((((((()", 1, 25 + 8);
        String eight = "";
        for (int k = 0; k < 8; k++) eight += "sign s" + (char) ('a' + k) + ";";
        faulty(HEAD + eight + "win when over;sign sa;", 1, 16 + 64 + 14);
    }

    private static void lawsAsAct() {
        JudoHall x = Check.drawn(0, 2);
        check.due("begin", x.begin(0, 0, 2), 1);
        Check.put(x, "time");
        check.due("laws while OPEN", x.laws(), Check.STATE);
        check.due("the tape is read", x.count(8), 0);
        check.due("bytes behind an empty tape", x.feed(0, 0, 0, 0, 0), 20);
        check.due("fault stays", x.fault(0), 0);
        check.due("fault's place stays", x.fault(1), Check.NONE);
        x.event(2, 0, 0);
        check.due("laws when closed", Check.laws(x, "time"), Check.NONE);
        check.due("fault", x.fault(1), 4);
        check.due("old laws stay", x.count(4), 1);
        check.due("other laws", Check.laws(x, HEAD + "win when over;win when extra;"), 2);
        check.due("lines", x.count(4), 2);
        check.due("signs", x.count(3), 0);
        int entries = x.count(7);
        check.due("undo of laws", x.undo(), entries - 1);
        check.due("lines again", x.count(4), 1);
        check.due("signs again", x.count(3), 1);
        check.due("parts again", x.count(5), 3);
    }

    /** A text that met an OPEN FIGHT is gone, but the FAULT told is still that of the text before. */
    private static void textNotLookedAt() {
        JudoHall x = Check.drawn(0, 2);
        Check.laws(x, HEAD + "sign a;sign a;");
        x.begin(0, 0, 2);
        check.due("sound laws while OPEN", Check.laws(x, HEAD + "win when over;"), Check.STATE);
        check.due("fault of the text before", x.fault(0), 2);
        check.due("place in the text before", x.fault(1), 16 + 12);
        x.undo();
        check.due("undo brings no bytes back", x.count(8), 0);
    }

    private static void latestText() {
        JudoHall x = new JudoHall();
        Check.laws(x, "time 1;x");
        check.due("first fault", x.fault(1), 7);
        Check.laws(x, HEAD + "sign a;sign a;");
        check.due("second fault", x.fault(0), 2);
        // an open bracket of the text before must not reach into the next
        Check.laws(x, HEAD + "win when not ((1=1 or (not over");
        check.due("third fault", x.fault(1), 16 + 31);
        check.due("sound one", Check.laws(x, HEAD + "win when not not not not not not not (over);"), 1);
        check.due("no fault", x.fault(0), 0);
        check.due("no place", x.fault(1), Check.NONE);
        Check.laws(x, "time");
        check.due("undo", x.undo(), 0);
        check.due("fault stays", x.fault(0), 1);
        check.due("place stays", x.fault(1), 4);
    }

    private static void cutTexts() {
        JudoHall x = new JudoHall();
        Check.put(x, "time 1;golden 2;sign ab;sign abc;");
        x.end(31);
        check.due("cut in a word", x.laws(), Check.NONE);
        check.due("what is left is there already", x.fault(0), 2);
        check.due("at its place", x.fault(1), 29);
        Check.put(x, "time 1    ");
        x.end(6);
        check.due("cut ahead of blanks", x.laws(), Check.NONE);
        check.due("no further than the end", x.fault(1), 6);
        Check.put(x, "time 1;golden 12345;");
        x.end(18);
        check.due("cut in a number", x.laws(), Check.NONE);
        check.due("four digits are left", x.fault(1), 18);
        Check.put(x, "time 1;golden 2;win when 1<=1;");
        x.end(27);
        check.due("cut in a sign", x.laws(), Check.NONE);
        check.due("the sign is there", x.fault(1), 27);
    }

    /** A fight by these laws, and one event: the line that ends it. */
    private static int lineBehindOneSign(JudoHall x, String text) {
        Check.laws(x, text);
        Check.fill(x, 0, 2);
        x.draw(0);
        x.begin(0, 0, 0);
        return x.event(0, 1, 0);
    }

    private static void wholeRoomIsWorked() {
        JudoHall x = new JudoHall();
        String text = HEAD + "sign a;win when " + many("1=2 or ", 72) + "1=2 and 1=1;win 9 when not not yours a=1;";
        check.due("the last of 300 PARTS", lineBehindOneSign(x, text), 1);
        check.due("parts", x.count(5), 300);
        check.due("winner", x.fight(0, 0, 2), 0);
        check.due("points", x.fight(0, 0, 5), 9);
        JudoHall y = new JudoHall();
        check.due("line 19", lineBehindOneSign(y, HEAD + "sign a;" + many("win when over;", 19) + "win 4 when mine a>0;"), 19);
        JudoHall z = new JudoHall();
        String deep = "not(not(not(not(1=2 or 1=1 and 1=2 or mine a>0 and 1+1+1-1=2))))";
        check.due("eight open", lineBehindOneSign(z, HEAD + "sign a;win when " + deep + ";"), 0);
    }

    private static void leftoversOfFaults() {
        for (String cut : new String[] {"win when 1+", "win when 1=1 and ", "win when not ", "win when (", "win when 1=", "win 7 "}) {
            JudoHall x = new JudoHall();
            check.due(cut, Check.laws(x, HEAD + "sign b;" + cut), Check.NONE);
            check.due("behind " + cut, lineBehindOneSign(x, HEAD + "sign a;win when 1+1=3;win when mine a=1 and 2=2;"), 1);
            check.due("points behind " + cut, x.fight(0, 0, 5), 1);
        }
    }
}
