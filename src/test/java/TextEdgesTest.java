/** Promise 4 at its edges: how many CLAUSES, which numbers, what is left out, where the FAULT is, how many have room. */
public final class TextEdgesTest {
    private static final int NIL = -5;
    private static final String SIX = "1,1;2,2;3,3;4,4;5,5;6,6";

    private TextEdgesTest() {
    }

    public static void main(String[] args) {
        clauses();
        places();
        loads();
        windows();
        lastsBelowFirst();
        stays();
        order();
        blanks();
        otherSigns();
        leftOut();
        endsTooEarly();
        faultsOfAHundred();
        nothingComesByAFault();
        comesAsLongAsThereIsRoom();
        isEmptyThen();
        Check.end("TextEdgesTest");
    }

    /** As many come as told, or the FAULT is so, and none comes. */
    private static void read(String text, int due) {
        WindowRounds w = new WindowRounds();
        Check.feed(w, text);
        Check.due("read of \"" + text + "\"", w.read(), due);
        Check.due("STOPS by \"" + text + "\"", w.count(0), Math.max(due, 0));
        Check.due("bytes behind \"" + text + "\"", w.count(4), 0);
    }

    /** The last STOP that comes by a text is so. */
    private static void facts(String text, int... due) {
        WindowRounds w = new WindowRounds();
        Check.feed(w, text);
        int many = w.read();
        for (int what = 0; what < due.length; what++) {
            Check.due("of what " + what + " by \"" + text + "\"", w.of(many - 1, what), due[what]);
        }
    }

    /** "CLAUSES, 1 to 6, with ; between". */
    private static void clauses() {
        read("", -10);
        read("1,1", 1);
        read("1,1;2,2", 2);
        read("1,1;2,2;3,3;4,4;5,5", 5);
        read("1,1;2,2;3,3;4,4;5,5;", -30);
        read(SIX, 6);
        read(SIX + ";", -33);
        read(SIX + ";7,7", -33);
        read(SIX + ";7,7;8,8", -33);
        read(SIX + ",", -33);
        read("1,1;", -14);
        read(";", -10);
        read(";1,1", -10);
        read("1,1;;2,2", -14);
        read("1,1,2,2", -13);
        read("1,1:2,2", -13);
    }

    /** "x , y (1 or 2 digits, 0 .. 63)". */
    private static void places() {
        facts("0,0", 0, 0);
        facts("63,63", 63, 63);
        facts("00,07", 0, 7);
        facts("9,10", 9, 10);
        read("64,0", -11);
        read("0,64", -13);
        read("99,0", -11);
        read("0,99", -13);
        read("063,0", -12);
        read("0,063", -14);
        read("630,0", -12);
        read("0,630", -14);
        read("640,0", -11);
        read("0,640", -13);
        read(",0", -10);
        read("-1,0", -10);
        read("0,-1", -12);
        read("0;0", -11);
        read("0,;1,1", -12);
        read("1,1;64,0", -15);
        read("1,1;0,64", -17);
    }

    /** "perhaps, * and a LOAD (1 or 2 digits, 0 .. 20; else 1)". */
    private static void loads() {
        facts("1,2*0", 1, 2, 0, 0, 999, 0);
        facts("1,2*00", 1, 2, 0);
        facts("1,2*9", 1, 2, 9);
        facts("1,2*09", 1, 2, 9);
        facts("1,2*20", 1, 2, 20);
        facts("1,2", 1, 2, 1);
        read("1,2*21", -15);
        read("1,2*30", -15);
        read("1,2*99", -15);
        read("1,2*020", -16);
        read("1,2*200", -16);
        read("1,2*210", -15);
        read("1,2*", -14);
        read("1,2*;1,1", -14);
        read("1,2*-1", -14);
    }

    /** "perhaps @ and FIRST - LAST (1 to 3 digits each .. else 0, 999)". */
    private static void windows() {
        facts("1,2@0-0", 1, 2, 1, 0, 0, 0);
        facts("1,2@999-999", 1, 2, 1, 999, 999);
        facts("1,2@000-999", 1, 2, 1, 0, 999);
        facts("1,2@007-08", 1, 2, 1, 7, 8);
        facts("1,2@12-345", 1, 2, 1, 12, 345);
        facts("1,2", 1, 2, 1, 0, 999);
        read("1,2@0-1000", -19);
        read("1,2@0-0000", -19);
        read("1,2@1000-1", -17);
        read("1,2@0000-1", -17);
        read("1,2@-1", -14);
        read("1,2@1", -15);
        read("1,2@1-", -16);
        read("1,2@1;1,1", -15);
        read("1,2@1,2", -15);
        read("1,2@1--2", -16);
        read("1,2@1-2-3", -17);
    }

    /** "LAST no less than FIRST"; "of a number that may not be its last digit". */
    private static void lastsBelowFirst() {
        facts("1,2@5-5", 1, 2, 1, 5, 5);
        facts("1,2@50-050", 1, 2, 1, 50, 50);
        facts("1,2@999-999", 1, 2, 1, 999, 999);
        facts("1,2@499-500", 1, 2, 1, 499, 500);
        read("1,2@5-4", -16);
        read("1,2@5-04", -17);
        read("1,2@5-004", -18);
        read("1,2@50-49", -18);
        read("1,2@50-5", -17);
        read("1,2@500-499", -20);
        read("1,2@500-50", -19);
        read("1,2@500-5", -18);
        read("1,2@500-5;1,1", -18);
        read("1,2@500-5+1", -18);
        read("1,2@500-4990", -20);
        read("1,2@999-998", -20);
        read("1,2@1-0", -16);
        read("1,1;1,2@5-4", -20);
    }

    /** "perhaps + and STAY (1 or 2 digits, 0 .. 30; else 0)". */
    private static void stays() {
        facts("1,2+0", 1, 2, 1, 0, 999, 0);
        facts("1,2+00", 1, 2, 1, 0, 999, 0);
        facts("1,2+9", 1, 2, 1, 0, 999, 9);
        facts("1,2+30", 1, 2, 1, 0, 999, 30);
        read("1,2+31", -15);
        read("1,2+40", -15);
        read("1,2+030", -16);
        read("1,2+300", -16);
        read("1,2+", -14);
        read("1,2+;1,1", -14);
        read("1,2+-1", -14);
    }

    /** "in that order". */
    private static void order() {
        facts("1,2*3@4-5+6", 1, 2, 3, 4, 5, 6);
        facts("1,2*3@4-5", 1, 2, 3, 4, 5, 0);
        facts("1,2*3+6", 1, 2, 3, 0, 999, 6);
        facts("1,2@4-5+6", 1, 2, 1, 4, 5, 6);
        read("1,2@4-5*3", -17);
        read("1,2+6*3", -15);
        read("1,2+6@4-5", -15);
        read("1,2*3*3", -15);
        read("1,2@4-5@4-5", -17);
        read("1,2+6+6", -15);
        read("*3", -10);
        read("1*3,2", -11);
        read("1,*3", -12);
    }

    /** "No blanks". */
    private static void blanks() {
        for (String blank : new String[] {" ", "\t", "\n", "\0"}) {
            read(blank, -10);
            read(blank + "1,2", -10);
            read("1" + blank + ",2", -11);
            read("1," + blank + "2", -12);
            read("1,2" + blank, -13);
            read("1,2" + blank + "*3", -13);
            read("1,2*" + blank + "3", -14);
            read("1,2*3" + blank, -15);
            read("1,2@4" + blank + "-5", -15);
            read("1,2@4-" + blank + "5", -16);
            read("1,2+" + blank + "6", -14);
            read("1,2;" + blank + "3,4", -14);
        }
    }

    /** Each of the 128 signs, where a number might go on: just digits and what may stand behind it are none of a FAULT. */
    private static void otherSigns() {
        for (char sign = 0; sign < 128; sign++) {
            boolean isDigit = sign >= '0' && sign <= '9';
            int behind = isDigit ? 1 : "*@+;".indexOf(sign) >= 0 ? -14 : -13;
            read("1,2" + sign, behind);
            read("1" + sign + "2", sign == ',' ? 1 : isDigit ? -12 : -11);
            read(sign + "", isDigit ? -11 : -10);
        }
    }

    /** "else 1", "else 0, 999", "else 0": what an earlier CLAUSE told doesn't go on. */
    private static void leftOut() {
        facts("9,8*7@6-65+4;1,2", 1, 2, 1, 0, 999, 0);
        facts("9,8*7@6-65+4;1,2*5", 1, 2, 5, 0, 999, 0);
        facts("9,8*7@6-65+4;1,2@3-4", 1, 2, 1, 3, 4, 0);
        facts("9,8*7@6-65+4;1,2+3", 1, 2, 1, 0, 999, 3);
        facts("1,2;9,8*7@6-65+4", 9, 8, 7, 6, 65, 4);
    }

    /** "(the end of THE TEXT, if it ends too early)": each beginning of two CLAUSES (207 begins by numbers below 106). */
    private static void endsTooEarly() {
        String text = "12,34*15@106-207+28;1,2";
        int[] due = {-10, -11, -12, -13, 1, 1, -16, 1, 1, -19, -20, -21, -22, -23, -23, -24, 1, -27, 1, 1, -30, -31, -32, 2};
        for (int n = 0; n < due.length; n++) {
            read(text.substring(0, n), due[n]);
        }
    }

    /** "THE FAULT: the place of the first byte .. (the end of THE TEXT ..)": the last places there are. */
    private static void faultsOfAHundred() {
        String most = Twins.FULL_TEXT;
        read(most, 6);
        read(most.substring(0, 98) + "@7", -110);
        read(most.substring(0, 98) + "*+", -109);
        read(most.substring(0, 98) + "++", -109);
        read(most.substring(0, 98) + "9;", -108);
        read(most.substring(0, 98) + "+;", -109);
        read(most.substring(0, 98) + ";1", -108);
        read(most.substring(0, 99) + "x", -109);
        read(most.substring(0, 99), -109);
    }

    /** By a FAULT none of the CLAUSES ahead of it comes, and nothing else changes but THE TEXT. */
    private static void nothingComesByAFault() {
        read("1,2;3,4;5,6;7,8;9", -27);
        read(SIX + "x", -33);
        for (String more : new String[] {"x", ";64,1", ";1,2;", "1"}) {
            Twins.alike("a FAULT by " + more, Twins.after(Twins::busy, w -> {
                for (char sign : more.toCharArray()) {
                    w.feed(sign);
                }
                Check.holds("a FAULT by " + more, w.read() <= -10);
                Check.feed(w, "5,6*2");
            }), Twins::busy);
        }
    }

    /** "Each comes then, as long as there is room". */
    private static void comesAsLongAsThereIsRoom() {
        for (int had = 9; had <= 16; had++) {
            WindowRounds w = new WindowRounds();
            for (int s = 0; s < had; s++) {
                w.stop(0, 0, 0, 0, 0, 0);
            }
            Check.feed(w, SIX);
            Calls.due(w, Math.min(6, 16 - had), "read");
            Calls.due(w, Math.min(16, had + 6), "count", 0);
            for (int s = had; s < Math.min(16, had + 6); s++) {
                Calls.due(w, s - had + 1, "of", s, 0);
                Calls.due(w, s - had + 1, "of", s, 1);
                Calls.due(w, NIL, "of", s, 6);
            }
            Check.feed(w, "64");
            Calls.due(w, -11, "read");
        }
    }

    /** "THE TEXT, which is empty then (by a FAULT, too)". */
    private static void isEmptyThen() {
        WindowRounds w = new WindowRounds();
        Calls.due(w, -10, "read");
        Check.feed(w, "1,2");
        Calls.due(w, 1, "read");
        Calls.due(w, 0, "count", 4);
        Calls.due(w, -10, "read");
        Check.feed(w, "3,");
        Calls.due(w, -12, "read");
        Calls.due(w, 0, "count", 4);
        Check.feed(w, "4,5");
        Calls.due(w, 1, "read");
        Calls.due(w, 4, "of", 1, 0);
        Calls.due(w, 2, "count", 0);
    }
}
