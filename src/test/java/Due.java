/** What is due of calls: prints each answer that is not, and ends the run with 1 if there was one. */
final class Due {
    private int asked = 0;
    private int wrong = 0;

    void is(String call, long got, long want) {
        asked++;
        if (got != want) {
            wrong++;
            System.out.println(call + " answered " + got + ", due is " + want);
        }
    }

    void end() {
        System.out.println(asked + " answers, " + wrong + " not as due");
        if (wrong != 0 || asked == 0) {
            System.exit(1);
        }
    }

    /** Types a text of 1 to 60 signs; answers what the last call of type answered. */
    static int type(WellMoods x, String text) {
        int answer = 0;
        for (int from = 0; from < text.length(); from += 8) {
            String part = text.substring(from, Math.min(text.length(), from + 8));
            long w = 0;
            for (int i = 0; i < part.length(); i++) {
                w = w << 8 | part.charAt(i);
            }
            answer = x.type(w, part.length());
        }
        return answer;
    }

    static int village(WellMoods x, String text) {
        type(x, text);
        return x.village();
    }

    static int plan(WellMoods x, String text) {
        type(x, text);
        return x.plan();
    }

    /** A new object with these FOLK. */
    static WellMoods well(String text) {
        WellMoods x = new WellMoods();
        village(x, text);
        return x;
    }
}
