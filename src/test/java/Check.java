/** What the tests share: they count answers that are not due, and end with 1 if there was one. */
final class Check {
    private static int wrong;
    private static int asked;

    private Check() {
    }

    static void due(String call, long got, long want) {
        asked++;
        if (got != want) {
            wrong++;
            System.out.println(call + " answered " + got + ", due is " + want);
        }
    }

    static void end(String test) {
        System.out.println(test + ": " + asked + " answers, " + wrong + " not as due");
        if (wrong != 0 || asked == 0) {
            System.exit(1);
        }
    }

    /** Feeds a text, eight bytes at a time: the latest answer of feed(). */
    static int feed(HourByVote x, String text) {
        int answer = 0;
        for (int from = 0; from < text.length(); from += 8) {
            int n = Math.min(8, text.length() - from);
            long eight = 0;
            for (int i = n - 1; i >= 0; i--) {
                eight = eight << 8 | text.charAt(from + i) & 255;
            }
            answer = x.feed(eight, n);
        }
        return answer;
    }

    /** Feeds a text and asks rules(). */
    static int rules(HourByVote x, String text) {
        feed(x, text);
        return x.rules();
    }

    /** One lover that wants 12, is ASLEEP, and 9999 NOONS; SHEET 0 has 20 bytes 0; 503 calls were used of its 512. */
    static HourByVote late() {
        HourByVote x = new HourByVote();
        x.voter(1, 12, 1, 0);
        x.wakes(0, false);
        x.sheet(0, 0, 20);
        for (int i = 0; i < 499; i++) {
            x.goAll(0, 0, 20);
        }
        x.goAll(0, 0, 19);
        return x;
    }
}
