/** Each edge that Terms II and promises 1 to 5 name for THE TAPE and the text of THE LAWS, on both sides. */
public final class LawsEdgesTest {
    private static final Check check = new Check("LawsEdgesTest");
    private static final String HEAD = "time 5;golden 3;";
    private static final int SYNTAX = 1, NAME = 2, ROOM = 3;

    public static void main(String[] args) {
        newObject();
        tapeOf3000Bytes();
        textOf3000Bytes();
        highestByteFirst();
        endOfTheTape();
        readingEmptiesTheTape();
        blanksBetweenTokens();
        bytesThatAreNone();
        wordsOfTenLetters();
        numbersOfFourDigits();
        runsAsLongAsTheyAre();
        signsOfTwoBytes();
        emptyText();
        textsEnd();
        orderOfTheText();
        tokensByPlace();
        quotedWordsAreNoNames();
        namesThatAreThereOrNot();
        namesBehindOtherBlanks();
        eightSigns();
        twentyLines();
        threeHundredParts();
        eightThingsOpen();
        openThingsAreClosed();
        firstFaultComeTo();
        leastKindOfOneToken();
        linesToldByLaws();
        stateIsAskedFirst();
        faultOfTheLatestText();
        faultOfAnotherWhat();
        lawsBehindAFault();
        lawsBehindAnUndo();
        check.end();
    }

    private static String many(String text, int n) { return text.repeat(n); }

    private static JudoHall sound(String text, int lines) {
        JudoHall x = new JudoHall();
        check.due(text, Check.laws(x, text), lines);
        check.due("fault(0) of " + text, x.fault(0), 0);
        check.due("fault(1) of " + text, x.fault(1), Check.NONE);
        return x;
    }

    private static void faulty(String text, int kind, int place) {
        JudoHall x = new JudoHall();
        check.due(text, Check.laws(x, text), Check.NONE);
        check.due("fault(0) of " + text, x.fault(0), kind);
        check.due("fault(1) of " + text, x.fault(1), place);
        check.due("entries behind " + text, x.count(7), 0);
    }

    /** "No FIGHTERS, no LAWS (time, golden 0, no lines), minute 0." */
    private static void newObject() {
        JudoHall x = new JudoHall();
        int[] counts = {0, 0, 10, 0, 0, 0, 0, 0, 0};
        for (int k = 0; k < counts.length; k++) check.due("count(" + k + ")", x.count(k), counts[k]);
        check.due("no FIGHTER", x.fighter(0, 0), Check.NONE);
        for (int c = 0; c < 4; c++) check.due("nobody of class " + c, x.about(c, 0), 0);
        for (int c = 0; c < 4; c++) check.due("class " + c + " is not drawn", x.about(c, 2), 0);
        for (int m = 0; m < 4; m++) check.due("mat " + m, x.mat(m, 0), Check.NONE);
        check.due("no plan", x.planned(0, 0, 0), Check.NONE);
        Check.fill(x, 0, 2);
        x.draw(0);
        check.due("no line", x.begin(0, 0, 0), Check.STATE);
        check.due("no sign", x.event(0, 0, 0), Check.RANGE);
    }

    /** "FULL when there would be more than 3000." */
    private static void tapeOf3000Bytes() {
        JudoHall x = new JudoHall();
        for (int k = 1; k < 150; k++) x.feed(0, 0, 0, 0, 0);
        check.due("2980 bytes", x.count(8), 2980);
        check.due("to 3000", x.feed(0, 0, 0, 0, 0), 3000);
        check.due("to 3020", x.feed(0, 0, 0, 0, 0), Check.FULL);
        check.due("bytes stay", x.count(8), 3000);
        for (int n = 2999; n > 2980; n -= 6) {
            check.due("end", x.end(n), n);
            check.due("to " + (n + 20), x.feed(0, 0, 0, 0, 0), Check.FULL);
            check.due("no byte of it came", x.count(8), n);
        }
        x.end(2980);
        check.due("to 3000 again", x.feed(0, 0, 0, 0, 0), 3000);
    }

    /** All of a full tape is the text, the last byte, too. */
    private static void textOf3000Bytes() {
        String line = "win when over;";
        String text = HEAD + many(" ", 3000 - HEAD.length() - line.length()) + line;
        sound(text, 1);
        JudoHall x = new JudoHall();
        Check.put(x, text);
        x.end(2999);
        check.due("without the last byte", x.laws(), Check.NONE);
        check.due("its kind", x.fault(0), SYNTAX);
        check.due("its place", x.fault(1), 2999);
        faulty(text.substring(0, 2999) + ")", SYNTAX, 2999);
        faulty(many(" ", 3000), SYNTAX, 3000);
        faulty(many("\n", 2999) + "x", SYNTAX, 2999);
        faulty(many("a", 3000), SYNTAX, 0);
        faulty("time " + many("1", 2995), SYNTAX, 5);
    }

    /** "Twenty bytes come behind THE TAPE, the highest of each int first." */
    private static void highestByteFirst() {
        JudoHall x = new JudoHall();
        check.due("the first twenty", x.feed(0x74696d65, 0x20313b67, 0x6f6c6465, 0x6e20323b, 0x73696720), 20);
        x.end(18);
        check.due("behind 18", x.feed(0x676e2061, 0x3b77696e, 0x20776865, 0x6e206c65, 0x66743d30), 38);
        x.feed(0x3b202020, 0x20202020, 0x20202020, 0x20202020, 0x20202020);
        check.due("lines", x.laws(), 1);
        JudoHall y = new JudoHall();
        y.feed(0x20202020, 0x202020ff, -1, Integer.MIN_VALUE, Integer.MAX_VALUE);
        check.due("bytes above 127", y.laws(), Check.NONE);
        check.due("are none", y.fault(1), 7);
    }

    /** "n; NONE when it has not so many, or n is below 0." */
    private static void endOfTheTape() {
        JudoHall x = new JudoHall();
        check.due("0 of none", x.end(0), 0);
        check.due("1 of none", x.end(1), Check.NONE);
        x.feed(1, 2, 3, 4, 5);
        for (int n : new int[] {21, -1, Integer.MAX_VALUE, Integer.MIN_VALUE}) {
            check.due("end(" + n + ")", x.end(n), Check.NONE);
            check.due("bytes behind end(" + n + ")", x.count(8), 20);
        }
        for (int n : new int[] {20, 19, 1, 0}) {
            check.due("end(" + n + ")", x.end(n), n);
            check.due("bytes behind end(" + n + ")", x.count(8), n);
        }
        check.due("what is gone is gone", x.end(1), Check.NONE);
        check.due("no ACT", x.count(7), 0);
    }

    /** "Each call that reads it empties it." */
    private static void readingEmptiesTheTape() {
        JudoHall x = new JudoHall();
        Check.put(x, HEAD + "win when over;");
        x.fault(0);
        x.now(0);
        x.undo();
        x.end(-1);
        check.due("other calls don't read it", x.count(8), HEAD.length() + 14);
        check.due("laws", x.laws(), 1);
        check.due("behind laws", x.count(8), 0);
        check.due("an empty one", x.laws(), Check.NONE);
        Check.put(x, "time");
        check.due("a FAULT", x.laws(), Check.NONE);
        check.due("behind a FAULT", x.count(8), 0);
        Check.fill(x, 0, 2);
        x.draw(0);
        x.begin(0, 0, 0);
        Check.put(x, HEAD);
        check.due("STATE", x.laws(), Check.STATE);
        check.due("behind STATE", x.count(8), 0);
        JudoHall y = new JudoHall();
        Check.fillLog(y);
        check.due("FULL", feedAndRead(y), Check.FULL);
        check.due("behind FULL", y.count(8), 0);
    }

    /** "time 1;golden 2;" and blanks, in two calls alone. */
    private static int feedAndRead(JudoHall x) {
        x.feed(0x74696d65, 0x20313b67, 0x6f6c6465, 0x6e20323b, 0x20202020);
        return x.laws();
    }

    /** "Blanks (32, 10) between TOKENS." */
    private static void blanksBetweenTokens() {
        for (int b = 0; b < 256; b++) {
            String text = "time" + (char) b + "1;golden 1;";
            boolean letter = b >= 'a' && b <= 'z';
            if (b == 32 || b == 10 || b >= '0' && b <= '9') {
                sound(text, 0);
            } else {
                faulty(text, SYNTAX, letter ? 0 : 4);
            }
        }
        sound("\n \n time \n 1 \n ; \n golden \n 1 \n ; \n", 0);
        sound("time1;golden1;sign a;win1when(mine a=1)and(left=1)or not(over);", 1);
    }

    /** "A byte that is none": behind a whole text only blanks may stand; in a cond only its own signs. */
    private static void bytesThatAreNone() {
        for (int b = 0; b < 256; b++) {
            if (b == 32 || b == 10) sound(HEAD + (char) b, 0);
            else faulty(HEAD + (char) b, SYNTAX, 16);
            String text = HEAD + "win when 1" + (char) b + "2;";
            if (b == '<' || b == '>' || b == '=') sound(text, 1);
            else if (b == 32 || b == 10) faulty(text, SYNTAX, 27);
            else if (b == '+' || b == '-') faulty(text, SYNTAX, 28);
            else if (b >= '0' && b <= '9') faulty(text, SYNTAX, 28);
            else faulty(text, SYNTAX, 26);
        }
    }

    /** "WORDS (small letters, as many as there are; at most 10)." */
    private static void wordsOfTenLetters() {
        sound(HEAD + "sign a;win when mine a=0;", 1);
        sound(HEAD + "sign abcdefghij;win when mine abcdefghij=0;", 1);
        faulty(HEAD + "sign abcdefghijk;", SYNTAX, 21);
        faulty(HEAD + "sign abcdefghij;win when mine abcdefghijk=0;", SYNTAX, 16 + 30);
        faulty(HEAD + "sign abcdefghij;sign abcdefghij;", NAME, 16 + 21);
        sound(HEAD + "sign abcdefghij;sign abcdefghii;", 0);
        faulty(HEAD + "winnnnnnnnn", SYNTAX, 16);
    }

    /** "NUMBERS (digits, as many as there are, at most 4)." */
    private static void numbersOfFourDigits() {
        sound("time 9999;golden 9999;win 9999 when 9999=9999;", 1);
        sound("time 0000;golden 0001;win 0002 when 0003=3;", 1);
        faulty("time 10000;golden 1;", SYNTAX, 5);
        faulty("time 00001;golden 1;", SYNTAX, 5);
        faulty("time 1;golden 10000;", SYNTAX, 14);
        faulty(HEAD + "win 10000 when over;", SYNTAX, 20);
        faulty(HEAD + "win when 10000=1;", SYNTAX, 25);
        faulty(HEAD + "win when 1=10000;", SYNTAX, 27);
        check.due("time 9999", leftOf("time 9999;golden 1;win when extra;"), 9999);
        check.due("golden 9999", leftOf("time 0;golden 9999;win when over;"), 9999);
        check.due("time 0007", leftOf("time 0007;golden 1;win when extra;"), 7);
    }

    private static int leftOf(String text) {
        JudoHall x = new JudoHall();
        Check.laws(x, text);
        Check.fill(x, 0, 2);
        x.draw(0);
        x.begin(0, 0, 0);
        return x.mat(0, 2);
    }

    /** "As many as there are": a run is one TOKEN, and another kind of byte ends it. */
    private static void runsAsLongAsTheyAre() {
        faulty("timegolden", SYNTAX, 0);
        faulty("time 1;goldenn 1;", SYNTAX, 7);
        faulty(HEAD + "sign a1;", SYNTAX, 22);
        faulty(HEAD + "signa;", SYNTAX, 16);
        faulty(HEAD + "win when over andover;", SYNTAX, 30);
        faulty(HEAD + "win when minea=1;", SYNTAX, 25);
        faulty(HEAD + "win when 12 34=1;", SYNTAX, 28);
        faulty(HEAD + "sign abcdefghij1;", SYNTAX, 31);
    }

    /** "< <= > >= = and !=": of two bytes only where these stand together. */
    private static void signsOfTwoBytes() {
        for (String comp : new String[] {"<", "<=", ">", ">=", "=", "!="}) {
            JudoHall x = sound(HEAD + "win when 1" + comp + "1;", 1);
            check.due("PARTS with " + comp, x.count(5), 3);
        }
        for (String apart : new String[] {"< =", "> =", "==", "=<", "=>", "<>", "<<", "<=="}) {
            int second = apart.length() == 3 ? 2 : 1;
            faulty(HEAD + "win when 1" + apart + "1;", SYNTAX, 26 + second);
        }
        faulty(HEAD + "win when 1! =1;", SYNTAX, 26);
        faulty(HEAD + "win when 1!", SYNTAX, 26);
        faulty(HEAD + "win when 1<", SYNTAX, 27);
        faulty(HEAD + "win when 1<=", SYNTAX, 28);
        JudoHall x = new JudoHall();
        Check.put(x, HEAD + "win when 1!=1;");
        x.end(27);
        check.due("cut in a sign", x.laws(), Check.NONE);
        check.due("the byte left of it is none", x.fault(1), 26);
    }

    private static void emptyText() {
        faulty("", SYNTAX, 0);
        faulty(" ", SYNTAX, 1);
        faulty("\n", SYNTAX, 1);
    }

    /** "(A TOKEN's first byte; the text's length at its end)": each text that stops too soon. */
    private static void textsEnd() {
        String text = "time 5;golden 3;sign a;win 2 when not(mine a+1<=left)and over;";
        String[] wholeUpTo = {"time 5;golden 3;", "time 5;golden 3;sign a;", text};
        for (int n = 0; n <= text.length(); n++) {
            String cut = text.substring(0, n);
            boolean whole = false;
            for (String w : wholeUpTo) whole |= cut.equals(w);
            JudoHall x = new JudoHall();
            boolean taken = Check.laws(x, cut) >= 0;
            check.due("taken: " + cut, taken ? 1 : 0, whole ? 1 : 0);
            // a word that is cut is another word, but at a token's end the fault is at the text's end
            boolean atTokensEnd = n == 0 || !Character.isLetter(cut.charAt(n - 1)) || n == text.length()
                || !Character.isLetter(text.charAt(n));
            if (!whole && atTokensEnd) check.due("place of " + cut, x.fault(1), n);
        }
        faulty("time 5;golden 3; \n ;", SYNTAX, 19);
        faulty("time 5;golden 3  \n ", SYNTAX, 19);
    }

    /** "time" .. "golden" .. {"sign" ..} {line}: each in its place, once. */
    private static void orderOfTheText() {
        faulty("golden 3;time 5;", SYNTAX, 0);
        faulty("time 5;time 5;", SYNTAX, 7);
        faulty(HEAD + "time 5;", SYNTAX, 16);
        faulty(HEAD + "golden 5;", SYNTAX, 16);
        faulty(HEAD + "win when over;sign a;", SYNTAX, 30);
        faulty(HEAD + ";", SYNTAX, 16);
        faulty("time;golden 3;", SYNTAX, 4);
        faulty("time 5;golden;", SYNTAX, 13);
        faulty(HEAD + "sign;", SYNTAX, 20);
        faulty(HEAD + "sign a b;", SYNTAX, 23);
        faulty(HEAD + "win;", SYNTAX, 19);
        faulty(HEAD + "win 1;", SYNTAX, 21);
        faulty(HEAD + "win 1 1 when over;", SYNTAX, 22);
        faulty(HEAD + "win when;", SYNTAX, 24);
        faulty(HEAD + "win when over when over;", SYNTAX, 30);
        faulty(HEAD + "win when 1+(1)=2;", SYNTAX, 27);
        faulty(HEAD + "win when (1)=1;", SYNTAX, 27);
        faulty(HEAD + "win when 1=not 1;", SYNTAX, 27);
        faulty(HEAD + "win when over=1;", SYNTAX, 29);
        faulty(HEAD + "win when 1=over;", SYNTAX, 27);
        faulty(HEAD + "win when 1;", SYNTAX, 26);
        faulty(HEAD + "win when 1=1=1;", SYNTAX, 28);
        faulty(HEAD + "win when and over;", SYNTAX, 25);
        faulty(HEAD + "win when over or;", SYNTAX, 32);
        faulty(HEAD + "win when (over;", SYNTAX, 30);
        faulty(HEAD + "win when over);", SYNTAX, 29);
        faulty(HEAD + "win when ()", SYNTAX, 26);
        faulty(HEAD + "win when 1++1=1;", SYNTAX, 27);
        faulty(HEAD + "win when +1=1;", SYNTAX, 25);
        faulty(HEAD + "win when left left=1;", SYNTAX, 30);
        faulty(HEAD + "win when mine;", SYNTAX, 29);
    }

    private static final String COMPS = " < <= > >= = != ";
    private static final String TERMS = " mine yours left 7 ";
    private static final String CONDS = " not over extra (" + TERMS;
    private static final String[] TOKENS = {"time", "golden", "sign", "win", "when", "or", "and", "not", "over", "extra", "mine",
        "yours", "left", "a", "zz", "7", "(", ")", ";", "+", "-", "<", "<=", ">", ">=", "=", "!=", "?", "!", "12345", "abcdefghijk", ""};

    /** "SYNTAX: a TOKEN .. with which no LAWS go on": every TOKEN in every place. "END" stands for the text's end. */
    private static void tokensByPlace() {
        onlyThese("", " time ");
        onlyThese("time ", " 7 ");
        onlyThese("time 5 ", " ; ");
        onlyThese("time 5;", " golden ");
        onlyThese("time 5;golden ", " 7 ");
        onlyThese("time 5;golden 3 ", " ; ");
        onlyThese(HEAD, " sign win END ");
        onlyThese(HEAD + "sign ", " a zz ");
        onlyThese(HEAD + "sign a ", " ; ");
        String ahead = HEAD + "sign a;";
        onlyThese(ahead, " sign win END ");
        onlyThese(ahead + "win ", " 7 when ");
        onlyThese(ahead + "win 7 ", " when ");
        for (String open : new String[] {"", "not ", "not not ", "(", "((", "not(", "over and ", "over or ", "(over and "}) {
            onlyThese(ahead + "win when " + open, CONDS);
        }
        for (String term : new String[] {"1 ", "left ", "mine a ", "1+1 ", "left-yours a "}) {
            onlyThese(ahead + "win when " + term, " + - " + COMPS);
        }
        for (String term : new String[] {"1+", "1-", "1=", "1< ", "1=1+", "left!=left-"}) onlyThese(ahead + "win when " + term, TERMS);
        for (String cond : new String[] {"1=1 ", "1=1+1 ", "not 1=mine a "}) onlyThese(ahead + "win when " + cond, " + - and or ; ");
        for (String cond : new String[] {"(1=1 ", "((1=1)and left<1 "}) onlyThese(ahead + "win when " + cond, " + - and or ) ");
        for (String cond : new String[] {"over ", "not extra ", "(over) ", "1=1 or over "}) onlyThese(ahead + "win when " + cond, " and or ; ");
        for (String cond : new String[] {"(over ", "((1=1) ", "over and(over "}) onlyThese(ahead + "win when " + cond, " and or ) ");
        onlyThese(ahead + "win when over;", " win END ");
    }

    private static void onlyThese(String ahead, String tokens) {
        for (String token : TOKENS) {
            JudoHall x = new JudoHall();
            String text = ahead + token;
            Check.laws(x, text);
            if (tokens.contains(" " + (token.isEmpty() ? "END" : token) + " ")) {
                boolean goesOn = x.fault(0) == 0 || x.fault(0) == SYNTAX && x.fault(1) == text.length();
                check.due("goes on: " + text, goesOn ? 1 : 0, 1);
            } else {
                check.due("kind of " + text, x.fault(0), SYNTAX);
                check.due("place of " + text, x.fault(1), ahead.length());
            }
        }
    }

    /** "The words quoted here are no signs' names." A word that has one more letter, or one less, is. */
    private static void quotedWordsAreNoNames() {
        String[] quoted = {"time", "golden", "sign", "win", "when", "not", "over", "extra", "mine", "yours", "left"};
        for (String word : quoted) {
            faulty(HEAD + "sign " + word + ";", SYNTAX, 21);
            faulty(HEAD + "sign a;win when mine " + word + "=1;", SYNTAX, 37);
            String longer = word + "s";
            String shorter = word.substring(0, word.length() - 1);
            sound(HEAD + "sign " + longer + ";sign " + shorter + ";win when mine " + longer + "=yours " + shorter + ";", 1);
        }
    }

    /** "NAME: a sign that is there already, or none such." */
    private static void namesThatAreThereOrNot() {
        faulty(HEAD + "sign a;sign a;", NAME, 28);
        faulty(HEAD + "sign a;sign b;sign a;", NAME, 35);
        sound(HEAD + "sign a;sign aa;sign b;sign ab;", 0);
        faulty(HEAD + "win when mine a=1;", NAME, 30);
        faulty(HEAD + "sign b;win when yours a=1;", NAME, 38);
        faulty(HEAD + "sign ab;win when mine a=1;", NAME, 38);
        faulty(HEAD + "sign a;win when mine ab=1;", NAME, 37);
        faulty(HEAD + "sign a;win when 1=mine a+yours b;", NAME, 47);
        // a name of the text before is none of this one
        JudoHall x = sound(HEAD + "sign a;", 0);
        check.due("the name of the text before", Check.laws(x, HEAD + "win when mine a=1;"), Check.NONE);
        check.due("is none such", x.fault(0), NAME);
    }

    /** A name is its letters alone: what stands ahead of it and behind it is none of it. */
    private static void namesBehindOtherBlanks() {
        sound(HEAD + "sign\nab;win when mine ab=yours\nab;", 1);
        sound(HEAD + "sign ab;win when mine\nab =yours \n ab\n;", 1);
        sound(HEAD + "sign\n\nab ;win when mine  ab=1;", 1);
        faulty(HEAD + "sign ab;sign\nab;", NAME, 29);
        faulty(HEAD + "sign\nab\n;sign ab;", NAME, 30);
        faulty(HEAD + "sign a;win when mine\nb=1;", NAME, 37);
    }

    private static String signs(int n) {
        StringBuilder s = new StringBuilder();
        for (int k = 0; k < n; k++) s.append("sign s").append((char) ('a' + k)).append(';');
        return s.toString();
    }

    /** "At most 8 signs", "the 9th "sign" (at them)". */
    private static void eightSigns() {
        for (int n = 0; n <= 8; n++) check.due("signs", sound(HEAD + signs(n), 0).count(3), n);
        faulty(HEAD + signs(9), ROOM, 16 + 64);
        faulty(HEAD + signs(8) + "sign", ROOM, 16 + 64);
        faulty(HEAD + signs(8) + "sign sa;", ROOM, 16 + 64);
        faulty(HEAD + signs(8) + "sign 1;", ROOM, 16 + 64);
        faulty(HEAD + signs(8) + "\n\nsign x;", ROOM, 16 + 66);
        // the 8th is worked as the others are
        JudoHall x = sound(HEAD + signs(8) + "win 3 when mine sh=2;", 1);
        Check.fill(x, 0, 2);
        x.draw(0);
        x.begin(0, 0, 0);
        check.due("sign 8", x.event(0, 0, 8), Check.RANGE);
        check.due("sign 7", x.event(0, 1, 7), Check.NONE);
        check.due("told", x.mat(0, 27), 1);
        check.due("sign 7 again", x.event(0, 1, 7), 0);
    }

    /** "20 lines", "21st "win"". */
    private static void twentyLines() {
        String line = "win when over;";
        for (int n = 0; n <= 20; n++) check.due("lines", sound(HEAD + many(line, n), n).count(4), n);
        faulty(HEAD + many(line, 21), ROOM, 16 + 280);
        faulty(HEAD + many(line, 20) + "win", ROOM, 16 + 280);
        faulty(HEAD + many(line, 20) + " win over", ROOM, 16 + 281);
        faulty(HEAD + many(line, 20) + "when", SYNTAX, 16 + 280);
    }

    /** A line of just so many PARTS (3 or more). */
    private static String lineOf(int parts) {
        int nots = (parts + 1) % 4;
        return "win when " + many("not ", nots) + "1=1" + many(" or 1=1", (parts + 1) / 4 - 1) + ";";
    }

    /** "300 PARTS (not, over, extra, comparisons, terms, +, -, and, or)", "301st PART (at them)". */
    private static void threeHundredParts() {
        partsAreFull("win when not mine a+left-1<=yours a and(over or extra);",
            "not", "mine", "+", "left", "-", "1", "<=", "yours", "and", "over", "or", "extra");
        for (String comp : new String[] {"<", "<=", ">", ">=", "=", "!="}) {
            partsAreFull("win when 1" + comp + "2;", "1", comp, "2");
        }
        partsAreFull("win when(not(((left=0))));", "not", "left", "=", "0");
        // a bracket, "win", "when" and ";" are none: they stand behind the 300th
        check.due("the 300th in brackets", sound(HEAD + lineOf(299) + "win 7 when((over));", 2).count(5), 300);
        faulty(HEAD + lineOf(300) + "win 7 when((over));", ROOM, 16 + lineOf(300).length() + 12);
        faulty(HEAD + lineOf(301), ROOM, 16 + lineOf(301).length() - 2);
    }

    /** Each of a line's PARTS as the 301st of all, and its last one as the 300th. */
    private static void partsAreFull(String line, String... parts) {
        String head = HEAD + "sign a;";
        String fits = head + lineOf(300 - parts.length) + line;
        check.due("PARTS with " + line, sound(fits, 2).count(5), 300);
        int from = 0;
        for (int k = 0; k < parts.length; k++) {
            int at = line.indexOf(parts[k], k == 0 ? 8 : from);
            from = at + parts[k].length();
            String ahead = head + lineOf(300 - k);
            faulty(ahead + line, ROOM, ahead.length() + at);
        }
    }

    /** "8 things open (brackets, not) in a cond", "9th thing open (at them)". */
    private static void eightThingsOpen() {
        String ahead = HEAD + "win when ";
        sound(ahead + many("(", 8) + "over" + many(")", 8) + ";", 1);
        faulty(ahead + many("(", 9) + "over" + many(")", 9) + ";", ROOM, 25 + 8);
        sound(ahead + many("not ", 8) + "over;", 1);
        faulty(ahead + many("not ", 9) + "over;", ROOM, 25 + 32);
        sound(ahead + many("not ", 8) + "1=1;", 1);
        faulty(ahead + many("not ", 8) + "(1=1);", ROOM, 25 + 32);
        sound(ahead + many("not(", 4) + "over" + many(")", 4) + ";", 1);
        faulty(ahead + many("not(", 4) + "not over" + many(")", 4) + ";", ROOM, 25 + 16);
        faulty(ahead + many("not(", 4) + "(over)" + many(")", 4) + ";", ROOM, 25 + 16);
        sound(ahead + many("(not ", 4) + "left=1" + many(")", 4) + ";", 1);
        faulty(ahead + many("(not ", 4) + "(left=1" + many(")", 5) + ";", ROOM, 25 + 20);
        faulty(ahead + "over and " + many("(", 9), ROOM, 25 + 9 + 8);
    }

    /** What is closed is open no more; another cond begins with none. */
    private static void openThingsAreClosed() {
        String ahead = HEAD + "win when ";
        String eight = many("(", 8) + "over" + many(")", 8);
        sound(ahead + eight + " and " + eight + " or " + eight + ";", 1);
        sound(ahead + eight + ";win when " + eight + ";", 2);
        sound(ahead + many("not ", 8) + "over and " + many("not ", 8) + "over;", 1);
        sound(ahead + many("not ", 8) + "1=1 or " + many("not ", 8) + "1=1;", 1);
        sound(ahead + "(" + many("not ", 7) + "1=1 and " + many("not ", 7) + "over);", 1);
        faulty(ahead + "(" + many("not ", 7) + "1=1 and " + many("not ", 8) + "over);", ROOM, 25 + 1 + 28 + 8 + 28);
        sound(ahead + many("not(", 3) + "over" + many(")", 3) + " or " + eight + ";", 1);
        // of the three nots and brackets only the inner pair is closed: four are open, four more may be
        String four = many("not(", 3) + "over) and ";
        sound(ahead + four + "((((over)))))) ;", 1);
        faulty(ahead + four + "(((((over", ROOM, 25 + four.length() + 4);
    }

    /** "The first come to as TOKENS are read one by one." */
    private static void firstFaultComeTo() {
        faulty(HEAD + "sign a;sign a;win when mine b=1;?", NAME, 28);
        faulty(HEAD + "sign a;?sign a;", SYNTAX, 23);
        faulty(HEAD + "win when mine b=" + many("(", 9), NAME, 30);
        faulty(HEAD + many("win when over;", 20) + "win when mine b=1;", ROOM, 16 + 280);
        faulty(HEAD + lineOf(300) + "win when mine zz=1;", ROOM, 16 + lineOf(300).length() + 9);
        faulty(HEAD + lineOf(299) + "win when mine zz=1;", NAME, 16 + lineOf(299).length() + 14);
    }

    /** "Of one TOKEN the least KIND": where a TOKEN may not stand at all, room and names don't matter. */
    private static void leastKindOfOneToken() {
        faulty(HEAD + signs(8) + "win when over;sign s", SYNTAX, 16 + 64 + 14);
        faulty(HEAD + many("win when over;", 19) + "win when over win", SYNTAX, 16 + 266 + 14);
        faulty(HEAD + "win when ((((((((1=(", SYNTAX, 25 + 10);
        faulty(HEAD + "win when not not not not not not not not 1=not", SYNTAX, 25 + 34);
        String full = HEAD + lineOf(299) + "win when over ";
        for (String part : new String[] {"over", "extra", "left", "mine", "yours", "1", "not", "+", "-", "<", "!="}) {
            faulty(full + part, SYNTAX, full.length());
        }
        for (String part : new String[] {"and", "or"}) faulty(full + part, ROOM, full.length());
        // the 9th thing open and the 301st PART at one TOKEN are both ROOM
        String both = HEAD + lineOf(292) + "win when " + many("not ", 8);
        faulty(both + "not over;", ROOM, both.length());
    }

    /** "How many lines": none, too. */
    private static void linesToldByLaws() {
        JudoHall x = sound(HEAD + "win when over;win when extra;", 2);
        check.due("no line", Check.laws(x, HEAD + "sign a;"), 0);
        check.due("lines", x.count(4), 0);
        check.due("PARTS", x.count(5), 0);
        check.due("signs", x.count(3), 1);
        check.due("an ACT each", x.count(7), 2);
        check.due("undo", x.undo(), 1);
        check.due("lines again", x.count(4), 2);
    }

    /** "STATE: a FIGHT is OPEN; NONE with a FAULT; FULL. (STATE is asked first ..)" */
    private static void stateIsAskedFirst() {
        Check.Made open = () -> {
            JudoHall x = Check.drawn(0, 2);
            x.begin(0, 0, 3);
            return x;
        };
        JudoHall x = open.hall();
        check.due("a sound text", Check.laws(x, HEAD), Check.STATE);
        check.due("a faulty text", Check.laws(x, "time"), Check.STATE);
        check.due("no text", x.laws(), Check.STATE);
        check.due("no FAULT was looked for", x.fault(0), 0);
        check.due("the laws stay", x.count(4), 1);
        x.event(3, 0, 0);
        check.due("DONE: a sound text", Check.laws(x, HEAD), 0);
        check.aheadOfFull("an OPEN FIGHT", open, y -> y.laws(), Check.STATE);
        check.aheadOfFull("a faulty text", () -> new JudoHall(), y -> y.laws(), Check.NONE);
        check.act("laws", () -> new JudoHall(), y -> feedAndRead(y), 0);
    }

    /** "The FAULT is that of the latest text that was looked at." */
    private static void faultOfTheLatestText() {
        JudoHall x = new JudoHall();
        check.due("ahead of any", x.fault(0), 0);
        check.due("no place ahead of any", x.fault(1), Check.NONE);
        Check.laws(x, HEAD + "sign a;sign a;");
        check.due("kind", x.fault(0), NAME);
        check.due("place", x.fault(1), 28);
        Check.laws(x, HEAD + "win when over;");
        check.due("without", x.fault(0), 0);
        check.due("no place without", x.fault(1), Check.NONE);
        Check.laws(x, "time 5;?");
        Check.fill(x, 0, 2);
        x.draw(0);
        x.begin(0, 0, 0);
        Check.laws(x, HEAD);
        check.due("STATE looks at none", x.fault(0), SYNTAX);
        check.due("place stays", x.fault(1), 7);
        x.undo();
        check.due("undo leaves it", x.fault(1), 7);
        JudoHall y = new JudoHall();
        y.laws();
        check.due("a FAULT ahead of FULL", y.fault(0), SYNTAX);
        Check.fillLog(y);
        check.due("FULL", feedAndRead(y), Check.FULL);
        check.due("FULL has looked", y.fault(0), 0);
        check.due("and found no place", y.fault(1), Check.NONE);
    }

    /** "NONE for another what." */
    private static void faultOfAnotherWhat() {
        JudoHall x = new JudoHall();
        Check.laws(x, "");
        check.due("fault(0)", x.fault(0), SYNTAX);
        check.due("fault(1)", x.fault(1), 0);
        for (int what : new int[] {-1, 2, 3, Integer.MIN_VALUE, Integer.MAX_VALUE}) {
            check.due("fault(" + what + ")", x.fault(what), Check.NONE);
        }
    }

    /** Nothing of a text with a FAULT is in the next one: no lines, PARTS, signs, things that are open, POINTS. */
    private static void lawsBehindAFault() {
        String[] faulty = {"sign b;win 7 when over;win 8 when 1=1;?", "win 7 when 1=1 and", "win 7 when not", "win 7 when not((", "win 9",
            "win when 1+", "win when 1<", many("win when over;", 20) + "win", lineOf(301), "win when " + many("(", 9)};
        for (String text : faulty) {
            JudoHall x = new JudoHall();
            check.due(text, Check.laws(x, HEAD + text), Check.NONE);
            check.due("behind " + text, Check.laws(x, HEAD + "sign a;win when mine a=1 and 1+1=2;"), 1);
            check.due("lines", x.count(4), 1);
            check.due("signs", x.count(3), 1);
            check.due("PARTS", x.count(5), 9);
            Check.fill(x, 0, 2);
            x.draw(0);
            x.begin(0, 0, 0);
            check.due("a second", x.tick(0, 1), Check.NONE);
            check.due("ends", x.event(0, 1, 0), 0);
            check.due("winner", x.fight(0, 0, 2), 1);
            check.due("POINTS", x.fight(0, 0, 5), 1);
        }
        // lines of the text before, each longer than the one that is told, are not asked behind it
        for (int lines = 2; lines <= 20; lines++) {
            JudoHall x = new JudoHall();
            Check.laws(x, HEAD + many("win 9 when 1=1 and 1=1;", lines) + "?");
            check.due("one line behind " + lines, Check.laws(x, HEAD + "sign a;win when 1=2;"), 1);
            Check.fill(x, 0, 2);
            x.draw(0);
            x.begin(0, 0, 0);
            check.due("a second behind " + lines, x.tick(0, 1), Check.NONE);
            check.due("an event behind " + lines, x.event(0, 0, 0), Check.NONE);
        }
    }

    /** Laws that were taken back are gone, also when others come in their stead. */
    private static void lawsBehindAnUndo() {
        JudoHall x = new JudoHall();
        Check.laws(x, HEAD + "sign a;win 2 when mine a=1;");
        x.undo();
        check.due("none", x.count(4), 0);
        check.due("others", Check.laws(x, "time 7;golden 0;sign a;sign b;win 3 when extra;win 4 when mine b=1;"), 2);
        check.due("their lines", x.count(4), 2);
        check.due("their signs", x.count(3), 2);
        check.due("a third", Check.laws(x, HEAD + "win when over;"), 1);
        x.undo();
        check.due("the second again", x.count(3), 2);
        Check.fill(x, 0, 2);
        x.draw(0);
        x.begin(0, 0, 0);
        check.due("time of the second", x.mat(0, 2), 7);
        check.due("line of the second", x.event(0, 0, 1), 1);
        check.due("POINTS of the second", x.fight(0, 0, 5), 4);
    }
}
