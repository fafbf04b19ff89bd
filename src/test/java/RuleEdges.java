/** The boundary sentences of section 2 and of promises 10 and 11: THE TAPE and THE RULES. */
final class RuleEdges {
    private static final int BAD = HourByVote.BAD, FULL = HourByVote.FULL;
    private static final String PART = "Section 2";

    private RuleEdges() {
    }

    static void all() {
        tape();
        eightRules();
        deeds();
        joins();
        ones();
        numbers();
        facts();
        names();
        digits();
        blanks();
        brackets();
        firstFault();
        wrongSigns();
        longNumber();
        above99();
        fourthBracket();
        ninthRule();
        end();
        endOfAFullTape();
        feed();
        feedRefused();
        rules();
        rulesTimeAndAgain();
        rulesRefused();
    }

    /** POWER of a lover that wants 20 and weighs 3, its number 1, two of three awake, at HOUR 9; or what rules() refuses. */
    private static int power(String text) {
        HourByVote x = new HourByVote();
        x.voter(1, 0, 1, 0);
        x.voter(1, 20, 3, 0);
        x.voter(1, 0, 1, 0);
        x.wakes(2, false);
        x.clock(9);
        int count = Check.rules(x, text);
        return count < 0 ? count : x.voterOf(1, 6);
    }

    private static void holds(String condition, boolean is) {
        Edge.due("if " + condition, power("lover if " + condition + " nil;"), is ? 0 : 3);
    }

    private static void fault(String text, int place) {
        HourByVote x = new HourByVote();
        Edge.due("'" + text + "'", Check.rules(x, text), -100 - place);
        Edge.due("none of it counts", x.many(1), 0);
    }

    private static void tape() {
        Edge.of(PART, "THE TAPE takes bytes, 200 at most; rules() uses it up.");
        HourByVote x = new HourByVote();
        Edge.due("200 bytes", Check.feed(x, " ".repeat(190) + "voter nil;"), 200);
        Edge.due("one more", x.feed(32, 1), FULL);
        Edge.due("all 200 tell", x.rules(), 1);
        Edge.due("used up", x.many(5), 0);
        Edge.due("200 more", Check.feed(x, ";".repeat(200)), 200);
        Edge.due("a FAULT", x.rules(), -100);
        Edge.due("used up by a FAULT, too", x.many(5), 0);
        Edge.due("nothing is left of it", x.rules(), 0);
    }

    private static void eightRules() {
        Edge.of(PART, "8 RULES at most.");
        String rule = "voter if 1=2 nil;";
        Edge.due("none", power(""), 3);
        Edge.due("seven that don't hold, and one", power(rule.repeat(7) + "lover more 1;"), 4);
        HourByVote x = new HourByVote();
        Edge.due("none", Check.rules(x, ""), 0);
        Edge.due("eight", Check.rules(x, rule.repeat(8)), 8);
        Edge.due("nine", Check.rules(x, rule.repeat(9)), -100 - 8 * rule.length());
        Edge.due("still eight", x.many(1), 8);
    }

    private static void deeds() {
        Edge.of(PART, "DO: more N | less N (0 to 99) | nil.");
        Edge.due("more 0", power("lover more 0;"), 3);
        Edge.due("more 99", power("lover more 99;"), 102);
        Edge.due("more 100", power("lover more 100;"), -111);
        Edge.due("less 0", power("lover less 0;"), 3);
        Edge.due("less 99", power("lover less 99;"), 0);
        Edge.due("less 100", power("lover less 100;"), -111);
        Edge.due("more without", power("lover more;"), -110);
        Edge.due("less without", power("lover less;"), -110);
        Edge.due("nil with", power("lover nil 1;"), -110);
        Edge.due("no deed", power("lover;"), -105);
    }

    private static void joins() {
        Edge.of(PART, "COND: ALL { or ALL }      ALL: ONE { and ONE }");
        holds("1=1", true);
        holds("1=2 or 1=1", true);
        holds("1=1 or 1=2", true);
        holds("1=2 or 1=2", false);
        holds("1=1 and 1=2", false);
        holds("1=2 and 1=1", false);
        holds("1=1 and 1=1", true);
        // "and" binds closer, on either side
        holds("1=1 or 1=1 and 1=2", true);
        holds("1=2 and 1=1 or 1=1", true);
        holds("1=2 and 1=2 or 1=2", false);
        // as many as THE TAPE takes
        Edge.due("37 times or", power("lover if1=2" + "or1=2".repeat(36) + "or1=1nil;"), 0);
        Edge.due("37 times or, none holds", power("lover if1=2" + "or1=2".repeat(37) + "nil;"), 3);
        Edge.due("30 times and", power("lover if1=1" + "and1=1".repeat(30) + "nil;"), 0);
        Edge.due("30 times and, the last doesn't hold", power("lover if1=1" + "and1=1".repeat(29) + "and1=2nil;"), 3);
        fault("voter if and 1=1 nil;", 9);
        fault("voter if or 1=1 nil;", 9);
        fault("voter if 1=1 and or 1=1 nil;", 17);
    }

    private static void ones() {
        Edge.of(PART, "ONE: { not } ( VALUE SIGN VALUE | \"(\" COND \")\" )");
        holds("not 1=1", false);
        holds("not not 1=1", true);
        holds("not (1=1)", false);
        holds("not (not (not 1=1))", false);
        // "not" is for the next ONE alone
        holds("not 1=2 and 1=2", false);
        holds("not 1=1 or 1=1", true);
        Edge.due("46 times not", power("lover if" + " not".repeat(46) + " 1=1nil;"), 0);
        Edge.due("45 times not", power("lover if" + " not".repeat(45) + " 1=1nil;"), 3);
        fault("voter if 1=1 not nil;", 13);
        fault("voter if () nil;", 10);
        fault("voter if (1=1 nil;", 14);
        fault("voter if 1=1) nil;", 12);
        fault("voter if (hour) = 1 nil;", 14);
    }

    private static void numbers() {
        Edge.of(PART, "N are NUMBERS 0 to 9999.");
        holds("0 = 0", true);
        holds("0 < 1", true);
        holds("9999 > 9998", true);
        holds("9999 = 9999", true);
        holds("0000 = 0", true);
        holds("0009 = 9", true);
        holds("hour < 9999", true);
        holds("hour > 0", true);
        fault("voter if hour < 10000 nil;", 16);
    }

    private static void facts() {
        Edge.of(PART, "FACTS: the HOUR that is shown; the VOTER's WANT, WEIGHT as told; how many VOTERS are awake; its number.");
        String[][] due = {{"hour", "9"}, {"want", "20"}, {"weight", "3"}, {"awake", "2"}, {"number", "1"}};
        for (String[] d : due) {
            int n = Integer.parseInt(d[1]);
            holds(d[0] + " = " + n, true);
            holds(d[0] + " < " + n, false);
            holds(d[0] + " > " + n, false);
            holds(d[0] + " < " + (n + 1), true);
            holds(d[0] + " > " + (n - 1), true);
        }
        HourByVote x = new HourByVote();
        x.voter(1, 12, 1, 0);
        Check.rules(x, "lover if awake = 0 more 5; lover if awake = 1 more 2;");
        Edge.due("one is awake", x.voterOf(0, 6), 3);
        x.wakes(0, false);
        Edge.due("none is awake", x.voterOf(0, 6), 6);
    }

    private static void names() {
        Edge.of(PART, "NAMES are rows of letters a to z");
        Edge.due("as long as they go: lovernil", power("lovernil;"), -100);
        Edge.due("as long as they go: nila", power("lover nila;"), -106);
        Edge.due("cut short: love", power("love nil;"), -100);
        Edge.due("cut short: ni", power("lover ni;"), -106);
        Edge.due("no letter: Lover", power("Lover nil;"), -100);
        Edge.due("no letter: loVer", power("loVer nil;"), -100);
        // what stands next to a and z
        Edge.due("` behind a NAME", power("lover` nil;"), -105);
        Edge.due("{ behind a NAME", power("lover{ nil;"), -105);
        Edge.due("@ behind a NAME", power("lover@ nil;"), -105);
        Edge.due("[ behind a NAME", power("lover[ nil;"), -105);
        Edge.due("a NUMBER ends a NAME", power("lover more1;"), 4);
        Edge.due("a is a letter", power("lovera nil;"), -100);
        Edge.due("z is a letter", power("loverz nil;"), -100);
        Edge.due("200 letters", power("a".repeat(200)), -100);
    }

    private static void digits() {
        Edge.of(PART, "NUMBERS rows of digits (1 to 4), both as long as they go");
        holds("9 = hour", true);
        holds("0009 = hour", true);
        Edge.due("a NAME ends a NUMBER", power("lover if 9=9nil;"), 0);
        fault("voter if 00009 = hour nil;", 9);
        fault("voter if 9/ = hour nil;", 10);
        fault("voter if 9: = hour nil;", 10);
        fault("voter if 9 9 = hour nil;", 11);
        fault("voter if -1 < 1 nil;", 9);
        fault("voter if " + "1".repeat(191), 9);
    }

    private static void blanks() {
        Edge.of(PART, "blanks (32) part them, and stand elsewhere as one likes.");
        Edge.due("everywhere", power("   lover   if   (   not   1   <   1   )   more   4   ;   "), 7);
        Edge.due("nowhere", power("lover if(1<2)more4;"), 7);
        Edge.due("alone", power("     "), 3);
        Edge.due("in a NAME", power("lo ver nil;"), -100);
        fault("voter more 1 0;", 13);
        for (int other : new int[] {0, 9, 10, 13, 31, 33, 127, 128, 160, 255}) {
            Edge.due("byte " + other + " is none", power("lover" + (char) other + "nil;"), -105);
            Edge.due("byte " + other + " alone", power("" + (char) other), -100);
        }
    }

    private static void brackets() {
        Edge.of(PART, "At most 3 \"(\" are open within one another.");
        holds("(((1=1)))", true);
        holds("(((1=2)))", false);
        holds("(((1=1))) and (((1=1)))", true);
        holds("(1=2 or (1=2 or (1=1)))", true);
        holds("not (not (not (1=2)))", true);
        holds("((1=1) and (1=1)) and ((1=1) and (1=1))", true);
        Edge.due("four", power("lover if ((((1=1)))) nil;"), -112);
    }

    private static void firstFault() {
        Edge.of(PART, "FAULT: the place (from 0) of the first byte of the first NAME, NUMBER or other byte that can't stand there");
        fault("?", 0);
        fault("12", 0);
        fault("nil", 0);
        fault(";", 0);
        fault("voter nil;;", 10);
        fault("voter nil; voter nil; if", 22);
        fault("voter hour", 6);
        fault("voter 5;", 6);
        fault("voter if 1 1", 11);
        fault("voter if 1 and", 11);
        fault("voter if 1 < <", 13);
        fault("voter if 1 < )", 13);
        fault("voter if 1 < 1 <", 15);
        fault("voter if lover = 1 nil;", 9);
        fault("voter if 1 = nil;", 13);
        fault("voter if if", 9);
        fault("voter if 1=1 if 1=1 nil;", 13);
        fault("voter nil; lover more 1; ? 1", 25);
        // the first one of several
        fault("voter ? ! 12345", 6);
    }

    private static void wrongSigns() {
        Edge.of(PART, "FAULT: the place (from 0) of the first byte of the first NAME, NUMBER or other byte that can't stand there");
        // each sign in the places of the others
        for (char c : "<=>();".toCharArray()) {
            fault(c + "voter nil;", 0);
            if (c != ';') {
                fault("voter nil" + c, 9);
            }
            if (c != '(') {
                fault("voter if " + c + "1=1 nil;", 9);
            }
            if (c != ')') {
                fault("voter if (1=1" + c + "nil;", 13);
            }
            if (c == '(' || c == ')' || c == ';') {
                fault("voter if 1" + c + "1 nil;", 10);
            }
            fault("voter if 1=" + c + "1 nil;", 11);
            fault("voter more " + c + "1;", 11);
        }
    }

    private static void longNumber() {
        Edge.of(PART, "(a NUMBER of more digits");
        fault("voter if 12345 < 1 nil;", 9);
        fault("voter if 1 < 12345 nil;", 13);
        fault("voter more 00001;", 11);
        fault("voter less 00000;", 11);
        fault("voter if 00000 = 0 nil;", 9);
        fault("12345", 0);
    }

    private static void above99() {
        Edge.of(PART, "N above 99 behind more or less");
        fault("voter more 100;", 11);
        fault("voter less 100;", 11);
        fault("voter more 9999;", 11);
        fault("voter less 0100;", 11);
        Edge.due("0099", power("lover more 0099;"), 102);
        Edge.due("above 99 in a condition", power("lover if 100 = 100 nil;"), 0);
    }

    private static void fourthBracket() {
        Edge.of(PART, "the fourth \"(\"");
        fault("voter if ((((", 12);
        fault("voter if ((( (1=1)))) nil;", 13);
        fault("voter if (((1=1 and (1=1)))) nil;", 20);
        fault("voter if not(not(not(not(1=1)))) nil;", 24);
        fault("voter if (((1=1))) and ((((1=1)))) nil;", 26);
    }

    private static void ninthRule() {
        Edge.of(PART, "the first NAME of the ninth RULE, too)");
        String eight = "voter nil;".repeat(8);
        fault(eight + "voter nil;", 80);
        fault(eight + "voter", 80);
        fault(eight + "   baker", 83);
        fault(eight + "nil", 80);
        HourByVote x = new HourByVote();
        Edge.due("blanks behind the eighth", Check.rules(x, eight + "   "), 8);
    }

    private static void end() {
        Edge.of(PART, "or the end (how many bytes there are), if more must come.");
        String whole = "voter if not ( 1 < 2 ) and hour = want or 3 > 4 more 5 ;";
        String[] words = whole.split(" ");
        String text = "";
        for (int i = 0; i < words.length - 1; i++) {
            text += words[i];
            fault(text, text.length());
            text += " ";
            fault(text, text.length());
        }
        HourByVote x = new HourByVote();
        Edge.due("no more must come", Check.rules(x, whole), 1);
        Edge.due("no more must come behind nothing", Check.rules(x, ""), 0);
        fault("voter nil; voter", 16);
    }

    private static void endOfAFullTape() {
        Edge.of(PART, "or the end (how many bytes there are), if more must come.");
        fault(" ".repeat(195) + "voter", 200);
        fault("voter" + " ".repeat(195), 200);
        fault(" ".repeat(191) + "voter nil", 200);
        fault(" ".repeat(199) + "?", 199);
    }

    private static void feed() {
        Edge.of("Promise 10", "n bytes (1 to 8) come to THE TAPE, the lowest of eight first: how many it has.");
        HourByVote x = new HourByVote();
        // "ver nil;" is behind "lo" in the order of the bytes
        Edge.due("two of eight", x.feed(0x3f3f3f3f3f3f6f6cL, 2), 2);
        Edge.due("all eight", x.feed(0x3b6c696e20726576L, 8), 10);
        Edge.due("as fed", x.rules(), 1);
        Edge.due("one, all bits", x.feed(-1L, 1), 1);
        Edge.due("eight, all bits", x.feed(-1L, 8), 9);
        Edge.due("byte 255", x.rules(), -100);
        x.feed(Long.MIN_VALUE, 8);
        Edge.due("byte 128 is the eighth, byte 0 the first", x.rules(), -100);
        x.feed(0x8020202020202020L, 8);
        Edge.due("byte 128 is the eighth", x.rules(), -107);
    }

    private static void feedRefused() {
        Edge.of("Promise 10", "BAD; FULL: more than 200.");
        Twins.off("feed(0, n)", (x, n) -> x.feed(0, n), 1, 8, BAD);
        for (int n = 1; n <= 8; n++) {
            int bytes = n;
            Twins.same("feed(0, " + n + ") to 200", x -> x.feed(0, bytes), FULL, Twins::full);
            HourByVote x = new HourByVote();
            Check.feed(x, " ".repeat(201 - n));
            Edge.due(n + " to " + (201 - n), x.feed(0, n), FULL);
            Edge.due("not a part of it", x.many(5), 201 - n);
            Edge.due("one less", n == 1 ? 200 : x.feed(0x2020202020202020L, n - 1), 200);
            Edge.due("blanks alone", x.rules(), 0);
        }
    }

    private static void rules() {
        Edge.of("Promise 11", "THE TAPE tells THE RULES (in place of all): how many");
        HourByVote x = new HourByVote();
        x.voter(1, 12, 3, 0);
        Edge.due("eight", Check.rules(x, "lover more 7;".repeat(8)), 8);
        Edge.due("one in place of eight", Check.rules(x, "baker nil;"), 1);
        Edge.due("many(1)", x.many(1), 1);
        Edge.due("none of the eight is left", x.sum(), 3);
        Edge.due("a condition", Check.rules(x, "lover if hour = 1 and want = 12 nil;"), 1);
        Edge.due("no condition in its place", Check.rules(x, "lover more 1;"), 1);
        Edge.due("it holds", x.sum(), 4);
        Edge.due("an empty TAPE", x.rules(), 0);
        Edge.due("many(1)", x.many(1), 0);
        Edge.due("no RULES", x.sum(), 3);
    }

    private static void rulesTimeAndAgain() {
        Edge.of("Promise 11", "(in place of all)");
        HourByVote x = new HourByVote();
        x.voter(1, 12, 3, 0);
        for (int i = 0; i < 18; i++) {
            // 30 NUMBERS each time
            String text = "lover if1=2" + "or3=4".repeat(12) + "or" + i + "=" + i + "more " + (50 + i) + ";lover nil;";
            Edge.due("reading " + i, Check.rules(x, text), 2);
            Edge.due("SUM", x.sum(), 53 + i);
            Edge.due("a FAULT", Check.rules(x, "lover if 9=9 nil; ?"), -118);
            Edge.due("SUM stays", x.sum(), 53 + i);
        }
    }

    private static void rulesRefused() {
        Edge.of("Promise 11", "-100 less its FAULT.");
        fault("?", 0);
        fault(" ?", 1);
        fault(" ".repeat(195) + "voter", 200);
        HourByVote x = new HourByVote();
        HourByVote y = new HourByVote();
        Twins.full(x);
        Twins.full(y);
        // what full() fed ends with a ";" too many
        Edge.due("the last of 200", x.rules(), -299);
        Edge.due("there as well", y.rules(), -299);
        Edge.due("a FAULT behind seven RULES", Check.rules(x, "lover nil;".repeat(7) + "lover nil"), -179);
        Twins.alike("THE RULES stay", x, y);
    }
}
