/** Books and bridges that the tests are made with. */
final class Books {

    static final String FOUR = "planks 1,2,3,4;";
    static final String ONE = "walker a weighs 1 takes 1;" + FOUR;
    static final String STRONG = "planks 30,30,30,30;";
    static final String[] KEYWORDS = ("walker weighs takes planks plan send with rest note"
            + " mend do while if else and fastest slowest lightest heaviest near far oil minute"
            + " night missing weakest").split(" ");
    static final String CHOICES = " fastest slowest lightest heaviest ";
    static final String MEASURES = " near far oil minute night missing weakest ";

    private Books() {
    }

    /** Walkers named wa, wb and so on, who weigh 1 and take 1 minute. */
    static String walkers(int number) {
        StringBuilder all = new StringBuilder();
        for (int i = 0; i < number; i++) {
            all.append("walker w").append((char) ('a' + i)).append(" weighs 1 takes 1;");
        }
        return all.toString();
    }

    /** A walker a, then b and so on, with these weights and minutes by turns. */
    static String people(int... weightsAndMinutes) {
        StringBuilder all = new StringBuilder();
        for (int i = 0; i + 1 < weightsAndMinutes.length; i += 2) {
            all.append("walker ").append((char) ('a' + i / 2)).append(" weighs ")
                    .append(weightsAndMinutes[i]).append(" takes ").append(weightsAndMinutes[i + 1])
                    .append(";");
        }
        return all.toString();
    }

    /** Plans named pa, pb and so on, without acts. */
    static String plans(int number) {
        StringBuilder all = new StringBuilder();
        for (int i = 0; i < number; i++) {
            all.append("plan p").append((char) ('a' + i)).append("()");
        }
        return all.toString();
    }

    static String planks(int number) {
        return "planks 1" + ",1".repeat(number - 1) + ";";
    }

    static String acts(int number) {
        return "rest 1;".repeat(number);
    }

    /** A book of 400 tokens, in two plans. */
    static String fourHundred() {
        return FOUR + "plan p (note 1;note 2;note 3;while 1=1" + " and 1=1".repeat(92)
                + " ())plan q ()";
    }

    /**
     * A bridge with planks of these strengths, of which 0 is a missing one, and none is rotten, at
     * the first minute of a night that is not weak.
     */
    static PlankBridge bridge(String walkers, String plans, int... strengths) {
        PlankBridge x = Checks.taught(walkers + planks(strengths.length) + plans);
        // In each weak night the next plank is rotten, and it is missing a night later.
        for (int i = 0; i < strengths.length; i++) {
            x.rest(360);
        }
        for (int plank = 0; plank < strengths.length; plank++) {
            if (strengths[plank] > 0) {
                x.layPlank(plank, strengths[plank]);
            }
        }
        return x;
    }

    /** The same, at the first minute of a weak night. */
    static PlankBridge weakNight(String walkers, String plans, int... strengths) {
        PlankBridge x = bridge(walkers, plans, strengths);
        x.rest(240);
        for (int plank = 0; plank < strengths.length; plank++) {
            if (strengths[plank] > 0) {
                x.layPlank(plank, strengths[plank]);
            }
        }
        return x;
    }

    /** An object of which nothing is as at first: all is used, worn, and half on its way. */
    static PlankBridge worn() {
        PlankBridge x = Checks.taught(people(3, 1, 4, 2, 9, 20) + "planks 30,7,9,5,30,6;"
                + "plan p (note 1;note 2;note 3;note 4;note 5;note 6;note 7;note 8;note 9;note 10;"
                + "note 11;note 12;) plan q (send fastest; note minute;)");
        x.rest(240);
        x.crossTogether(0, 1);
        x.layPlank(1, 20);
        x.layPlank(2, 20);
        x.crossTogether(0, 1);
        x.rest(360);
        x.runPlan(0);
        x.crossAlone(0);
        Checks.teach(x, "planks 1,2,31,4;");
        Checks.feed(x, "planks 9,8,7,6;  pla".getBytes());
        return x;
    }
}
