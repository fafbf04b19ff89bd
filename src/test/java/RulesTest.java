/** Promises 10 and 11: THE TAPE, and THE RULES that it tells. */
public final class RulesTest {
    private RulesTest() {
    }

    public static void main(String[] args) {
        feeds();
        changesWeights();
        takesTheFirstThatFits();
        comparesAllFacts();
        joinsConditions();
        countsThoseAwake();
        faults();
        staysWhenRefused();
        holdsEight();
        fillsTheTape();
        Check.end("RulesTest");
    }

    private static void feeds() {
        HourByVote x = new HourByVote();
        Check.due("10: none", x.feed(1, 0), HourByVote.BAD);
        Check.due("10: nine", x.feed(1, 9), HourByVote.BAD);
        Check.due("10: below 0", x.feed(1, -1), HourByVote.BAD);
        Check.due("10: many(5)", x.many(5), 0);
        for (int i = 1; i <= 24; i++) {
            Check.due("10: eight", x.feed(0x2020202020202020L, 8), 8 * i);
        }
        Check.due("10: seven", x.feed(0x2020202020202020L, 7), 199);
        Check.due("10: two are too many", x.feed(0x2020, 2), HourByVote.FULL);
        Check.due("10: BAD ahead of FULL", x.feed(0x2020, 9), HourByVote.BAD);
        Check.due("10: many(5) stays", x.many(5), 199);
        Check.due("10: the last", x.feed(0x20, 1), 200);
        Check.due("10: one is too many", x.feed(0x20, 1), HourByVote.FULL);
        Check.due("11: 200 blanks", x.rules(), 0);
        Check.due("11: used up", x.many(5), 0);
        Check.due("10: a byte of the upper half", x.feed(-1, 1), 1);
        Check.due("11: it can't stand there", x.rules(), -100);
        // the lowest byte first: "voter ni", "l;"
        x.feed(0x696e207265746f76L, 8);
        x.feed(0x7f7f3b6cL, 2);
        Check.due("10: lowest first, no more than n", x.rules(), 1);
    }

    private static int weight(String text, int kind, int weight, int hour) {
        HourByVote x = new HourByVote();
        x.voter(1, 0, 1, 0);
        x.voter(1, 1, 1, 0);
        x.wakes(1, false);
        int p = x.voter(kind, 20, weight, 0);
        x.clock(hour);
        int count = Check.rules(x, text);
        return count < 0 ? count : x.voterOf(p, 6);
    }

    private static void changesWeights() {
        Check.due("11: more", weight("lover more 5;", 1, 3, 0), 8);
        Check.due("11: more 99", weight("lover more 99;", 1, 9, 0), 108);
        Check.due("11: more 0", weight("lover more 0;", 1, 9, 0), 9);
        Check.due("11: less", weight("lover less 2;", 1, 3, 0), 1);
        Check.due("11: less, to 0", weight("lover less 3;", 1, 3, 0), 0);
        Check.due("11: less, no lower", weight("lover less 99;", 1, 3, 0), 0);
        Check.due("11: nil", weight("lover nil;", 1, 3, 0), 0);
        Check.due("11: four digits", weight("lover more 0007;", 1, 3, 0), 10);
        Check.due("11: debtor at noon", weight("debtor nil;", 2, 3, 12), 2);
        Check.due("11: shift at noon", weight("shift less 1;", 3, 3, 12), 12);
        Check.due("11: baker", weight("baker more 2;", 4, 3, 12), 2);
        Check.due("11: sleeper by night", weight("sleeper more 9;", 5, 3, 5), 0);
        Check.due("11: sleeper by day", weight("sleeper more 9;", 5, 3, 6), 6);
    }

    private static void takesTheFirstThatFits() {
        String[] kinds = {"voter", "lover", "debtor", "shift", "baker", "sleeper"};
        int[] under = {-1, 0, 0, 2, 0, 4};
        int[] plain = {0, 8, 8, 24, 4, 4};
        for (int kind = 1; kind <= 5; kind++) {
            for (int k = 0; k <= 5; k++) {
                boolean is = k == kind || k == 0 || k == under[kind];
                Check.due("11: " + kinds[k] + " for " + kinds[kind], weight(kinds[k] + " nil;", kind, 8, 8), is ? 0 : plain[kind]);
            }
        }
        Check.due("11: the first", weight("lover more 1; lover more 2;", 1, 3, 0), 4);
        Check.due("11: the one above first", weight("voter more 1; lover more 2;", 1, 3, 0), 4);
        Check.due("11: another KIND is passed over", weight("debtor more 1; lover more 2;", 1, 3, 0), 5);
        Check.due("11: what doesn't hold is passed over", weight("lover if 1 > 2 more 1; lover more 2;", 1, 3, 0), 5);
        Check.due("11: none holds", weight("lover if 1 > 2 more 1; lover if 1 = 2 more 2;", 1, 3, 0), 3);
        Check.due("11: only one RULE", weight("lover more 1; lover nil;", 1, 3, 0), 4);
    }

    private static void comparesAllFacts() {
        // the third of three, of whom two are awake, wants 20, weighs 3; hour 9 is shown
        String[][] holds = {
            {"hour", "9"}, {"want", "20"}, {"weight", "3"}, {"awake", "2"}, {"number", "2"}, {"9", "9"}, {"0012", "12"}
        };
        for (String[] h : holds) {
            int n = Integer.parseInt(h[1]);
            Check.due("11: " + h[0] + " = " + n, weight("lover if " + h[0] + " = " + n + " nil;", 1, 3, 9), 0);
            Check.due("11: " + h[0] + " < " + n, weight("lover if " + h[0] + " < " + n + " nil;", 1, 3, 9), 3);
            Check.due("11: " + h[0] + " > " + n, weight("lover if " + h[0] + " > " + n + " nil;", 1, 3, 9), 3);
            Check.due("11: " + h[0] + " < " + (n + 1), weight("lover if " + h[0] + " < " + (n + 1) + " nil;", 1, 3, 9), 0);
            Check.due("11: " + h[0] + " > " + (n - 1), weight("lover if " + h[0] + " > " + (n - 1) + " nil;", 1, 3, 9), 0);
            Check.due("11: " + (n + 1) + " > " + h[0], weight("lover if " + (n + 1) + ">" + h[0] + " nil;", 1, 3, 9), 0);
        }
        Check.due("11: hour < want", weight("lover if hour < want nil;", 1, 3, 9), 0);
        Check.due("11: want < hour", weight("lover if want < hour nil;", 1, 3, 9), 3);
        Check.due("11: WEIGHT is as told", weight("lover if weight = 4 nil; lover if weight = 3 more 1;", 1, 3, 9), 4);
        Check.due("11: 9999", weight("lover if 9999 > 9998 nil;", 1, 3, 9), 0);
    }

    private static void joinsConditions() {
        String t = "1=1";
        String f = "1=2";
        String[][] due = {
            {t, "t"}, {f, "f"}, {"not " + t, "f"}, {"not " + f, "t"}, {"not not " + t, "t"}, {"not not not " + t, "f"},
            {t + " and " + f, "f"}, {t + " and " + t, "t"}, {f + " and " + t, "f"}, {f + " and " + f, "f"},
            {t + " or " + f, "t"}, {f + " or " + t, "t"}, {f + " or " + f, "f"}, {t + " or " + t, "t"},
            {t + " or " + f + " and " + f, "t"}, {f + " and " + f + " or " + t, "t"}, {f + " and " + t + " or " + f, "f"},
            {"(" + t + " or " + f + ") and " + f, "f"}, {f + " and (" + f + " or " + t + ")", "f"},
            {"not " + f + " and " + f, "f"}, {"not (" + f + " and " + f + ")", "t"}, {"not(" + t + ")", "f"},
            {"not " + f + " or " + t, "t"}, {"not (" + f + " or " + t + ")", "f"}, {"not not (" + t + ")", "t"},
            {"(((" + t + ")))", "t"}, {"not (not (not (" + t + ")))", "f"}, {"(" + t + ") and (" + t + ") and (" + f + ")", "f"},
            {"((" + t + ")) and ((" + t + "))", "t"}, {f + " or " + f + " or " + t, "t"}, {t + " and " + t + " and " + f, "f"}
        };
        for (String[] d : due) {
            Check.due("11: " + d[0], weight("lover if " + d[0] + " nil;", 1, 3, 9), d[1].equals("t") ? 0 : 3);
        }
        Check.due("11: blanks where one likes", weight("  lover   if( 1<2 )and not(2<1)more 5 ;  ", 1, 3, 9), 8);
        Check.due("11: none where none must be", weight("lover if(1<2)and not(2<1)more5;", 1, 3, 9), 8);
        Check.due("11: 12and", weight("lover if 3=12or weight=3nil;", 1, 3, 9), 0);
    }

    private static void countsThoseAwake() {
        HourByVote x = new HourByVote();
        x.voter(1, 5, 3, 0);
        x.voter(1, 5, 2, 0);
        Check.rules(x, "voter if awake = 1 more 10;");
        Check.due("11: both awake", x.sum(), 5);
        x.wakes(1, false);
        Check.due("11: one is awake", x.sum(), 13);
        Check.due("11: none of the two", x.voterOf(1, 6), 12);
        x.wakes(0, false);
        Check.due("11: none is awake", x.sum(), 0);
        Check.due("11: none is awake", x.voterOf(0, 6), 3);
    }

    private static void fault(String text, int place) {
        HourByVote x = new HourByVote();
        Check.due("11: '" + text + "'", Check.rules(x, text), -100 - place);
        Check.due("11: used up by '" + text + "'", x.many(5), 0);
    }

    private static void faults() {
        fault("voter", 5);
        fault("voter  ", 7);
        fault("vote more 1;", 0);
        fault("voters more 1;", 0);
        fault("voterz more 1;", 0);
        fault("avoter more 1;", 0);
        fault("  Voter more 1;", 2);
        fault("12 more 1;", 0);
        fault("if", 0);
        fault(";", 0);
        fault("voter;", 5);
        fault("voter voter", 6);
        fault("voter more", 10);
        fault("voter more;", 10);
        fault("voter more x;", 11);
        fault("voter more 1", 12);
        fault("voter more 1 2;", 13);
        fault("voter more 1 voter", 13);
        fault("voter more 99;;", 14);
        fault("voter more 100;", 11);
        fault("voter less 100;", 11);
        fault("voter less 0100;", 11);
        fault("voter more 00001;", 11);
        fault("voter nil 1;", 10);
        fault("voter nil", 9);
        fault("voternil;", 0);
        fault("voter morenil;", 6);
        fault("voter if", 8);
        fault("voter if nil;", 9);
        fault("voter if more 1;", 9);
        fault("voter if hour nil;", 14);
        fault("voter if hour", 13);
        fault("voter if hour <", 15);
        fault("voter if hour < nil;", 16);
        fault("voter if hour << 1 nil;", 15);
        fault("voter if hour <= 1 nil;", 15);
        fault("voter if hour < 10000 nil;", 16);
        fault("voter if 10000 < hour nil;", 9);
        fault("voter if 1 < 2 < 3 nil;", 15);
        fault("voter if 1 < 2;", 14);
        fault("voter if 1 < 2", 14);
        fault("voter if 1 < 2 and", 18);
        fault("voter if 1 < 2 and nil;", 19);
        fault("voter if 1 < 2 or or 1 < 2 nil;", 18);
        fault("voter if 1 < 2 not 1 < 2 nil;", 15);
        fault("voter if 1 < 2) nil;", 14);
        fault("voter if (1 < 2 nil;", 16);
        fault("voter if (1 < 2", 15);
        fault("voter if () nil;", 10);
        fault("voter if (hour) < 1 nil;", 14);
        fault("voter if ((((1 < 2)))) nil;", 12);
        fault("voter if (((1 < 2))) and ((( (1 < 2)))) nil;", 29);
        fault("voter if (((1 < 2 and (1 < 2)))) nil;", 22);
        fault("voter if not nil;", 13);
        fault("voter if not", 12);
        fault("voter if 1 < 2 if 1 < 2 nil;", 15);
        fault("voter if price < 2 nil;", 9);
        fault("voter if kind = voter nil;", 9);
        fault("voter if voter < 2 nil;", 9);
        fault("voter if hour < lover nil;", 16);
        fault("voter\tnil;", 5);
        fault("voter nil;\n", 10);
        fault("voter nil; \0", 11);
        fault("voter nil;" + (char) 233, 10);
        fault("voter nil; lover nil; baker", 27);
        fault("voter nil; lover nil; bakers nil;", 22);
        fault("voter more -1;", 11);
        fault("voter if 1 ! 2 nil;", 11);
        fault("voter more 5 if 1 < 2;", 13);
        // each sign for each other one
        for (char c : "<=>();".toCharArray()) {
            if (c != ';') {
                fault("voter nil" + c, 9);
            }
            if (c != ')') {
                fault("voter if (1<2" + c + " nil;", 13);
            }
            if (c != '(') {
                fault("voter if " + c + "1<2 nil;", 9);
            }
            if (c == '(' || c == ')' || c == ';') {
                fault("voter if 1" + c + "2 nil;", 10);
            }
        }
    }

    private static void staysWhenRefused() {
        HourByVote x = new HourByVote();
        x.voter(1, 5, 3, 0);
        Check.due("11: one RULE", Check.rules(x, "lover more 4;"), 1);
        Check.due("11: a FAULT", Check.rules(x, "lover more 7; lover"), -119);
        Check.due("11: many(1) stays", x.many(1), 1);
        Check.due("11: THE RULES stay", x.voterOf(0, 6), 7);
        Check.due("11: in place of all", Check.rules(x, "lover if weight = 3 more 1; baker nil;"), 2);
        Check.due("11: SUM", x.sum(), 4);
        Check.due("11: nothing told", x.rules(), 0);
        Check.due("11: no RULES", x.many(1), 0);
        Check.due("11: SUM without", x.sum(), 3);
        for (int i = 0; i < 20; i++) {
            String never = "lover if " + i + " > 20 and not 1 < 2 or 3 > 4 more 50;";
            Check.due("11: time and again", Check.rules(x, never + "lover if hour < 1 and " + i + " = " + i + " more 7;"), 2);
            Check.due("11: SUM", x.sum(), 10);
            Check.due("11: a FAULT ahead of it", Check.rules(x, "lover if 1 = 2 nil; 99"), -120);
            Check.due("11: without condition", Check.rules(x, "lover more 8;"), 1);
            Check.due("11: SUM", x.sum(), 11);
        }
    }

    private static void holdsEight() {
        String eight = "";
        for (int r = 1; r <= 8; r++) {
            eight += "lover if hour=" + r + " more " + r + ";";
        }
        HourByVote x = new HourByVote();
        x.voter(1, 5, 3, 0);
        Check.due("11: eight", Check.rules(x, eight + " "), 8);
        for (int hour = 0; hour <= 9; hour++) {
            x.clock(hour);
            Check.due("11: the RULE of hour " + hour, x.voterOf(0, 6), hour == 9 ? 3 : 3 + hour);
        }
        Check.due("11: a ninth", Check.rules(x, eight + "lover"), -100 - eight.length());
        Check.due("11: a ninth, behind blanks", Check.rules(x, eight + "  lover nil;"), -102 - eight.length());
        Check.due("11: still eight", x.many(1), 8);
    }

    private static void fillsTheTape() {
        StringBuilder b = new StringBuilder("lover if 1<2");
        while (b.length() < 192) {
            b.append(b.length() < 180 ? "and 1<2" : " ");
        }
        b.append("more 33;");
        Check.due("11: 200 bytes", b.length(), 200);
        Check.due("11: a long condition", weight(b.toString(), 1, 3, 0), 36);
        for (String end : new String[] {"voter", "1234", ";"}) {
            fault(" ".repeat(200 - end.length()) + end, end.equals("voter") ? 200 : 200 - end.length());
        }
        fault(";".repeat(200), 0);
        fault("voter if " + "(".repeat(191), 12);
        StringBuilder nots = new StringBuilder("lover if ");
        for (int i = 0; i < 45; i++) {
            nots.append("not ");
        }
        Check.due("11: 45 nots", weight(nots + "1=2 nil;", 1, 3, 0), 0);
        Check.due("11: 45 nots", weight(nots + "1=1 nil;", 1, 3, 0), 3);
    }
}
