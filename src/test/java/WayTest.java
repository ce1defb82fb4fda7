/** Promises 36 to 38: in how few minutes all could be far, and who crosses first then. */
public final class WayTest {

    public static void main(String[] args) {
        allNear();
        fromNowOn();
        withoutBridgeOilAndNight();
        allFar();
        Checks.end();
    }

    private static PlankBridge taking(int... minutes) {
        StringBuilder book = new StringBuilder();
        for (int i = 0; i < minutes.length; i++) {
            book.append("walker ").append((char) ('a' + i)).append(" weighs 1 takes ")
                    .append(minutes[i]).append(";");
        }
        return Checks.taught(book + "planks 9,9,9,9;");
    }

    private static void due(String what, PlankBridge x, int fewest, int first, int second) {
        long digest = x.digest();
        Checks.promise(36, "fewestMinutes");
        Checks.due("fewestMinutes() of " + what, x.fewestMinutes(), fewest);
        Checks.promise(37, "firstToCross");
        Checks.due("firstToCross() of " + what, x.firstToCross(), first);
        Checks.promise(38, "secondToCross");
        Checks.due("secondToCross() of " + what, x.secondToCross(), second);
        Checks.due("fewestMinutes() of " + what + " once more", x.fewestMinutes(), fewest);
        Checks.due("digest() behind these", x.digest(), digest);
    }

    private static void allNear() {
        due("7", taking(7), 7, 0, -1);
        due("3, 8", taking(3, 8), 8, 0, 1);
        due("1, 2, 5", taking(1, 2, 5), 8, 0, 1);
        // The fastest one walks with each of the others; the pair 5, 2 cannot begin.
        due("5, 2, 1", taking(5, 2, 1), 8, 0, 2);
        due("1, 2, 5, 10", taking(1, 2, 5, 10), 17, 0, 1);
        due("10, 1, 2, 5", taking(10, 1, 2, 5), 17, 1, 2);
        due("2, 10, 1, 5", taking(2, 10, 1, 5), 17, 0, 2);
        // To and fro with the fastest one: 1 with 8, 1 back, 1 with 9 and so on.
        due("9, 1, 8, 8", taking(9, 1, 8, 8), 9 + 8 + 8 + 1 + 1, 0, 1);
        due("4, 4, 4", taking(4, 4, 4), 12, 0, 1);
        // 1 + 2 over, 1 back, 20 + 20, 2 back, three times; then 1 + 2.
        due("20, 20, 20, 20, 20, 20, 1, 2", taking(20, 20, 20, 20, 20, 20, 1, 2),
                3 * (2 + 1 + 20 + 2) + 2, 6, 7);
        // The same with 7 and 8, 5 and 6, 3 and 4.
        due("1, 2, 3, 4, 5, 6, 7, 8", taking(1, 2, 3, 4, 5, 6, 7, 8), 13 + 11 + 9 + 2, 0, 1);
    }

    private static void fromNowOn() {
        PlankBridge x = taking(2, 10, 1, 5);
        x.crossTogether(0, 2);
        // Either of the fast ones can go back.
        due("two far", x, 15, 0, -1);
        x.crossAlone(2);
        due("one far", x, 14, 1, 3);
        x.crossTogether(1, 3);
        due("three far", x, 4, 0, -1);
        x.crossAlone(0);
        due("two near", x, 2, 0, 2);
        PlankBridge y = taking(3, 8, 5);
        y.crossTogether(1, 2);
        // 2 fetches 0: 5 back, 5 over.
        due("slow ones far", y, 10, 2, -1);
        y.crossAlone(1);
        due("a slow one back", y, 8, 0, 1);
        PlankBridge z = taking(3, 8, 5);
        z.crossAlone(1);
        due("only the slow one far", z, 8 + 8 + 3 + 5, 1, -1);
    }

    private static void withoutBridgeOilAndNight() {
        PlankBridge x = Checks.taught("walker a weighs 9 takes 20;walker b weighs 9 takes 20;"
                + "walker c weighs 9 takes 20;planks 9,1,1,9;");
        due("20, 20, 20", x, 60, 0, 1);
        x.crossAlone(0);
        due("20, 20, 20 without planks", x, 60, 0, 1);
        x.rest(99);
        due("20, 20, 20 at the minute 119", x, 60, 0, 1);
        PlankBridge y = taking(20, 1);
        y.crossAlone(0);
        y.crossAlone(0);
        y.crossAlone(0);
        due("20, 1 without oil", y, 40, 0, -1);
        PlankBridge z = taking(20, 20, 20, 20, 20, 20, 20, 20);
        due("eight of 20", z, 13 * 20, 0, 1);
    }

    private static void allFar() {
        PlankBridge x = taking(3, 8);
        x.crossTogether(0, 1);
        PlankBridge none = new PlankBridge();
        for (PlankBridge over : new PlankBridge[] {x, none}) {
            Checks.promise(36, "fewestMinutes");
            Checks.due("fewestMinutes() of all far", over.fewestMinutes(), 0);
            Checks.promise(37, "firstToCross");
            Checks.thrown("firstToCross() of all far", IllegalStateException.class, over,
                    () -> over.firstToCross());
            Checks.promise(38, "secondToCross");
            Checks.thrown("secondToCross() of all far", IllegalStateException.class, over,
                    () -> over.secondToCross());
        }
        x.crossAlone(0);
        due("one back", x, 3, 0, -1);
        Checks.promise(4, "teach, fewest minutes");
        Checks.teach(x, "walker a weighs 1 takes 9;walker b weighs 1 takes 7;planks 9,9,9,9;");
        due("another book", x, 9, 0, 1);
        // Asked first of all, behind a book for which they had been asked as well.
        Checks.promise(37, "firstToCross");
        Checks.teach(x, "walker a weighs 1 takes 9;walker b weighs 1 takes 1;walker c weighs 1 takes 2;"
                + "walker d weighs 1 takes 9;planks 9,9,9,9;");
        Checks.due("firstToCross()", x.firstToCross(), 1);
        Checks.promise(38, "secondToCross");
        Checks.teach(x, "walker a weighs 1 takes 9;walker b weighs 1 takes 2;walker c weighs 1 takes 9;"
                + "walker d weighs 1 takes 1;planks 9,9,9,9;");
        Checks.due("secondToCross()", x.secondToCross(), 3);
    }
}
