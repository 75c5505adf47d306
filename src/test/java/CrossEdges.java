/** CROSSING: planks that just bear, GAPS that are just short enough, and those of one more. */
final class CrossEdges {
    private static final int NONE = -1;

    private final Due due;

    CrossEdges(Due due) {
        this.due = due;
    }

    /** Planks of STRENGTH 9 and 1: a dash is one that is too weak for a LOAD of 5. */
    private static String planks(String row) {
        return row.replace("-", "book 1;").replace("#", "book 9;");
    }

    private static BookBridge bridge(String row, String lines) {
        return Due.bridge(planks(row) + lines);
    }

    @Says("a plank is THERE for a WALKER, if its BOOK isn't UP, and bears him")
    void thereIfNotUp() {
        BookBridge b = Due.bridge("book 5;book 5;case 0 1 0;case 0 1 1;plain 0 0 5 0 0;plain 0 0 6 0 0;");
        int[] days = {2, 1, 3};
        for (int i = 0; i < 3; i++) {
            int day = i;
            due.is("day " + i, days[i], () -> b.planks(0, day));
            due.is("too heavy on day " + i, 0, () -> b.planks(1, day));
        }
    }

    @Says("is his LOAD or more; a cart's: twice his LOAD or more")
    void loadOrMore() {
        String books = "book 1;book 4;book 5;book 9;book 10;book 11;book 19;book 20;";
        BookBridge b = Due.bridge(books + "plain 0 0 5 0 0;farmer 0 0 1 0 0;judge 0 0 20 0 0;cart 0 0 5 0 0;cart 0 0 10 0 0;");
        int[] planks = {0xfc, 0xff, 0x80, 0xf0, 0x80};
        for (int i = 0; i < 5; i++) {
            int walker = i;
            due.is("walker " + i, planks[i], () -> b.planks(walker, 0));
        }
        BookBridge light = Due.bridge(books + "plain 0 0 0 0 0;cart 0 0 0 0 0;cart 0 0 1 0 0;cart 0 0 11 0 0;cart 0 0 20 0 0;");
        int[] lightPlanks = {0xff, 0xff, 0xfe, 0, 0};
        for (int i = 0; i < 5; i++) {
            int walker = i;
            due.is("light or very heavy " + i, lightPlanks[i], () -> light.planks(walker, 0));
        }
    }

    @Says("its STRENGTH (less WEAR by how many CASES that QUOTE it have BEGUN by that DAY, that DAY too)")
    void wearByCasesBegun() {
        String text = "book 12;book 12;book 12;case 0 1 0;case 0 1 1;case 0 1 0;wear 3;"
                + "plain 0 0 12 0 0;plain 0 0 9 0 0;plain 0 0 6 0 0;cart 0 0 3 0 0;plain 0 0 7 0 0;";
        BookBridge b = Due.bridge(text);
        // Book 0 bears 9 from day 0 on and 6 from day 2 on, book 1 bears 9 from day 1 on; one is up on days 0 to 2.
        int[][] want = {{6, 4, 4, 4}, {6, 5, 6, 6}, {6, 5, 6, 7}, {6, 5, 6, 7}, {6, 5, 6, 6}};
        for (int i = 0; i < 5; i++) {
            for (int j = 0; j < 4; j++) {
                int walker = i;
                int day = j;
                due.is("walker " + i + " on day " + j, want[i][j], () -> b.planks(walker, day));
            }
        }
        due.is("all have begun on the last day", 7, () -> b.planks(2, 99));
        BookBridge late = Due.bridge("book 9;book 9;wear 5;case 0 1 0;case 0 1 1;plain 0 0 9 0 0;");
        late.docket(Due.row8(1, 0));
        due.is("the DAY ahead of its beginning", 1, () -> late.planks(0, 0));
        due.is("none bears him from then on", 0, () -> late.planks(0, 1) + late.planks(0, 2));
        BookBridge that = Due.bridge("book 9;wear 1;case 0 1 0;plain 0 0 8 0 0;plain 0 0 9 0 0;");
        due.is("that DAY too: it bears 8, were it not up", 1, () -> that.settled(0, 0));
        due.is("that DAY too: it bears no 9", NONE, () -> that.settled(1, 0));
    }

    @Says("(less WEAR by how many CASES")
    void wearAtItsEnds() {
        String seven = "case 0 1 0;".repeat(7) + "plain 0 0 0 0 0;plain 0 0 1 0 0;plain 0 0 20 0 0;";
        BookBridge none = Due.bridge("book 20;wear 0;" + seven);
        due.is("no WEAR", 1, () -> none.planks(2, 7));
        BookBridge two = Due.bridge("book 14;wear 2;" + seven);
        due.is("worn to 0 bears a LOAD of 0", 1, () -> two.planks(0, 7));
        due.is("and none of 1", 0, () -> two.planks(1, 7));
        BookBridge below = Due.bridge("book 13;wear 2;" + seven);
        due.is("worn below 0 bears none", 0, () -> below.planks(0, 7));
        BookBridge most = Due.bridge("book 20;wear 9;" + seven);
        due.is("worn by 63", 0, () -> most.planks(0, 7));
        BookBridge once = Due.bridge("book 20;wear 9;case 0 1 0;plain 0 0 11 0 0;plain 0 0 12 0 0;");
        due.is("the most WEAR bears 11", 1, () -> once.planks(0, 1));
        due.is("and none of 12", 0, () -> once.planks(1, 1));
    }

    @Says("a judge treads on no BOOK that any CASE of the COURT of his SIDE QUOTES.")
    void judge() {
        BookBridge b = Due.bridge("book 9;book 9;book 9;book 9;case 0 1 0 2;case 1 1 1;case 1 1 2;"
                + "judge 0 0 0 0 0;judge 1 0 0 0 0;judge 0 0 10 0 0;plain 0 0 0 0 0;plain 1 0 0 0 0;");
        int[] planks = {10, 9, 0, 15, 15};
        int[] days = {3, 63, 64, 99};
        for (int i = 0; i < 5; i++) {
            for (int day : days) {
                int walker = i;
                due.is("walker " + i + " on day " + day, planks[i], () -> b.planks(walker, day));
            }
        }
        BookBridge late = Due.bridge("book 9;book 9;case 0 9 0;case 0 1 1;judge 0 0 0 0 0;judge 1 0 0 0 0;");
        due.is("also ahead of its beginning", 0, () -> late.planks(0, 0));
        due.is("the other COURT's are no matter", 2, () -> late.planks(1, 0));
    }

    @Says("in the order in which planks are laid (or the other way round, it is all one)")
    void theOtherWayRound() {
        BookBridge b = bridge("-#--#---#-", "case 0 1 1;case 1 1 9;fee 7;flood 3;plain 0 3 5 0 9;plain 0 2 5 0 9;farmer 0 1 5 0 9;"
                + "farmer 0 0 0 0 9;plain 0 4 5 0 9;");
        int[][] pays = {{NONE, 0, 0, NONE}, {NONE, NONE, NONE, NONE}, {49, 35, 35, NONE}, {14, 0, 0, 0}, {0, 0, 0, 0}};
        for (int turn = 0; turn < 2; turn++) {
            for (int i = 0; i < 5; i++) {
                for (int j = 0; j < 4; j++) {
                    int walker = i;
                    int day = j;
                    due.is("walker " + i + " on day " + j + ", turn " + turn, pays[i][j], () -> b.crosses(walker, day));
                }
            }
            due.is("the bar, turn " + turn, turn == 0 ? 16 * 5 + 3 : 16 * 2 + 3, () -> b.bar(0, 3));
            due.yes("turned round", b.lay(0x0123456789L));
        }
    }

    @Says("A GAP is a longest row of planks that aren't THERE.")
    void gapIsALongestRow() {
        BookBridge b = bridge("#-##-#", "case 0 1 2;plain 0 1 5 0 0;plain 0 2 5 0 0;plain 0 1 0 0 0;");
        due.is("weak ones and one that is up beside it are one", 16 + 2, () -> b.bar(0, 0));
        due.is("of two planks", 0, () -> b.crosses(1, 0));
        due.is("for a light one it is of one plank", 0, () -> b.crosses(2, 0));
        due.is("apart they are of one plank each", 0, () -> b.crosses(0, 1));
        b.lay(Due.row16(1, 0, 2, 3, 5, 4));
        due.is("one at each end", 0, () -> b.crosses(0, 0));
        b.lay(Due.row16(1, 4, 0, 2, 3, 5));
        due.is("two at the first end", 2, () -> b.bar(0, 0));
        b.lay(Due.row16(0, 3, 5, 2, 1, 4));
        due.is("three at the last end", 16 * 3 + 3, () -> b.bar(0, 0));
    }

    @Says("He can step over GAPS of no more planks than LEGS")
    void noMoreThanLegs() {
        for (int i = 0; i <= 6; i++) {
            int legs = i;
            String lines = "plain 0 " + i + " 5 0 9;cart 0 " + i + " 4 0 9;judge 0 " + i + " 5 0 9;";
            BookBridge just = bridge("#" + "-".repeat(i) + "#", lines);
            BookBridge more = bridge("#" + "-".repeat(i + 1) + "#", lines);
            for (int j = 0; j < 3; j++) {
                int walker = j;
                due.is(j + " with legs " + i, 0, () -> just.crosses(walker, 0));
                due.is(j + " without a bar, legs " + i, NONE, () -> just.bar(walker, 0));
                due.is(j + " with legs " + i + ", one more", NONE, () -> more.crosses(walker, 0));
                due.is(j + " at the bar, legs " + i, 17 + legs, () -> more.bar(walker, 0));
            }
        }
    }

    @Says("(one fewer in a FLOOD, 0 at least)")
    void oneFewerInAFlood() {
        for (int i = 0; i <= 6; i++) {
            int steps = i == 0 ? 0 : i - 1;
            String lines = "flood 7;plain 0 " + i + " 5 0 9;farmer 0 " + i + " 5 0 9;";
            BookBridge just = bridge("#" + "-".repeat(steps) + "#", lines);
            BookBridge more = bridge("#" + "-".repeat(steps + 1) + "#", lines);
            for (int j = 0; j < 2; j++) {
                int walker = j;
                due.is(j + " with legs " + i, 0, () -> just.crosses(walker, 7));
                due.is(j + " with legs " + i + ", one more", NONE, () -> more.crosses(walker, 7));
                due.is(j + " at the bar, legs " + i, 17 + steps, () -> more.bar(walker, 7));
            }
            int dry = i == 0 ? NONE : 0;
            due.is("the day ahead, legs " + i, dry, () -> more.crosses(0, 6));
            due.is("the day behind, legs " + i, dry, () -> more.crosses(0, 8));
        }
        BookBridge ends = bridge("#-#", "plain 0 1 5 0 63;flood 0;flood 63;flood 31;flood 32;");
        int[] floods = {0, 31, 32, 63};
        int[] dry = {1, 30, 33, 62, 64, 95, 96, 99};
        for (int day : floods) {
            due.is("flood " + day, NONE, () -> ends.crosses(0, day));
        }
        for (int day : dry) {
            due.is("no flood " + day, 0, () -> ends.crosses(0, day));
        }
    }

    @Says("a farmer wades through others, too, that are no more than 3 planks longer than that (not in a FLOOD)")
    void threePlanksLonger() {
        for (int i = 0; i <= 6; i++) {
            int legs = i;
            String lines = "flood 7;farmer 0 " + i + " 5 0 9;plain 0 " + i + " 5 0 9;";
            BookBridge just = bridge("-".repeat(i + 3) + "#".repeat(7 - i), lines);
            BookBridge more = bridge("-".repeat(i + 4) + "#".repeat(6 - i), lines);
            due.is("legs " + i, i + 3, () -> just.crosses(0, 0));
            due.is("no bar, legs " + i, NONE, () -> just.bar(0, 0));
            due.is("one more, legs " + i, NONE, () -> more.crosses(0, 0));
            due.is("the bar, legs " + i, legs + 4, () -> more.bar(0, 0));
            due.is("no farmer, legs " + i, NONE, () -> just.crosses(1, 0));
            due.is("a FLOOD, legs " + i, NONE, () -> just.crosses(0, 7));
            BookBridge step = bridge("-".repeat(i) + "#", lines);
            due.is("what he steps over on a dry day, legs " + i, i == 0 ? 0 : NONE, () -> step.crosses(0, 7));
        }
    }

    @Says("and pays FEE for each of their planks.")
    void paysForEach() {
        BookBridge b = bridge("-#--#---#", "farmer 0 0 5 0 0;farmer 0 1 5 0 0;farmer 0 2 5 0 0;farmer 0 3 5 0 0;fee 7;");
        int[] pays = {42, 35, 21, 0};
        for (int i = 0; i < 4; i++) {
            int walker = i;
            due.is("legs " + i, pays[i], () -> b.crosses(walker, 0));
        }
        due.is("the most", 891, () -> bridge("-".repeat(9) + "#", "farmer 0 6 5 0 0;fee 99;").crosses(0, 0));
        due.is("the most, by the last planks", 891, () -> bridge("#" + "-".repeat(9), "farmer 0 6 5 0 0;fee 99;").crosses(0, 0));
        due.is("of several", 792, () -> bridge("---#---#--", "farmer 0 0 5 0 0;fee 99;").crosses(0, 0));
        due.is("nothing by a FEE of 0", 0, () -> bridge("---", "farmer 0 0 5 0 0;fee 0;").crosses(0, 0));
        due.is("1 without a FEE", 3, () -> bridge("---", "farmer 0 0 5 0 0;").crosses(0, 0));
        due.is("nothing without a GAP", 0, () -> bridge("###", "farmer 0 0 5 0 0;fee 99;").crosses(0, 0));
        due.is("all nine, one longer than he can", NONE, () -> bridge("-".repeat(10), "farmer 0 6 5 0 0;fee 99;").crosses(0, 0));
    }

    @Says("THE BAR: the first GAP that he can't, by its first place.")
    void firstGapThatHeCannot() {
        due.is("the second GAP", 16 * 2 + 2, () -> bridge("-#--#---", "plain 0 1 5 0 0;").bar(0, 0));
        due.is("the last GAP", 16 * 5 + 3, () -> bridge("-#--#---", "plain 0 2 5 0 0;").bar(0, 0));
        due.is("the first of two alike", 2, () -> bridge("--#--", "plain 0 1 5 0 0;").bar(0, 0));
        due.is("the last plank", 16 * 9 + 1, () -> bridge("#########-", "plain 0 0 5 0 0;").bar(0, 0));
        due.is("all planks", 10, () -> bridge("----------", "farmer 0 6 5 0 0;").bar(0, 0));
        due.is("behind one that a farmer wades through", 16 * 4 + 4, () -> bridge("---#----", "farmer 0 0 5 0 0;").bar(0, 0));
    }

    @Says(promise = 12, value = "Planks that are THERE for a WALKER on a DAY, as bits by their places.")
    void planksByPlaces() {
        BookBridge b = bridge("#########-", "plain 0 0 5 0 0;plain 0 0 0 0 0;plain 0 0 20 0 0;");
        due.is("all but the last", 511, () -> b.planks(0, 0));
        due.is("all ten", 1023, () -> b.planks(1, 0));
        due.is("none", 0, () -> b.planks(2, 0));
        b.lay(0x0123456789L);
        due.is("all but the first", 1022, () -> b.planks(0, 0));
    }

    @Says(promise = 13, value = "CROSSING: what a WALKER pays (0 on); NONE: he can't.")
    void paysOrCannot() {
        BookBridge b = bridge("-", "plain 0 0 5 0 0;plain 0 1 5 0 0;farmer 0 0 5 0 0;farmer 0 1 5 0 0;");
        int[] pays = {NONE, 0, 1, 0};
        for (int i = 0; i < 4; i++) {
            int walker = i;
            due.is("walker " + i, pays[i], () -> b.crosses(walker, 0));
        }
    }

    @Says(promise = 14, value = "THE BAR: 16 by its first place and how many planks it has; NONE: he CROSSES.")
    void barOrCrosses() {
        BookBridge b = bridge("#-", "plain 0 0 5 0 0;plain 0 1 5 0 0;farmer 0 0 5 0 0;farmer 0 1 5 0 0;flood 0;");
        int[] bars = {17, 17, 17, 17};
        int[] dry = {17, NONE, NONE, NONE};
        for (int i = 0; i < 4; i++) {
            int walker = i;
            due.is("walker " + i + " in a flood", bars[i], () -> b.bar(walker, 0));
            due.is("walker " + i, dry[i], () -> b.bar(walker, 1));
        }
    }

    @Says("GETS OVER: a WALKER who CROSSES on some DAY of his (FROM to TO).")
    void fromHisFirstToHisLastDay() {
        String text = "book 9;case 0 9 0;case 0 9 0;plain 0 0 0 0 17;plain 0 0 0 0 18;plain 0 0 0 18 18;plain 0 0 0 63 63;plain 0 0 0 0 63;";
        BookBridge b = Due.bridge(text);
        int[] days = {NONE, 18, 18, 63, 18};
        for (int i = 0; i < 5; i++) {
            int walker = i;
            due.is("walker " + i, days[i], () -> b.over(walker));
            due.is("drawn " + i, days[i] == NONE ? 0 : 5, () -> b.terms(walker, 31 * walker + 7, 5));
        }
        due.is("so many by the best docket", 4, () -> b.best(1));
        BookBridge first = Due.bridge("book 9;book 9;case 0 1 0;case 0 1 1;plain 0 0 0 1 1;plain 0 0 0 2 2;plain 0 1 0 0 0;");
        due.is("not on the last day of the term", NONE, () -> first.over(0));
        due.is("on the day behind it", 2, () -> first.over(1));
        due.is("on day 0", 0, () -> first.over(2));
        BookBridge worn = Due.bridge("book 9;book 9;wear 9;case 0 1 0;case 0 1 1;plain 0 1 1 0 63;plain 0 1 1 1 63;");
        due.is("on day 0 alone", 0, () -> worn.over(0));
        due.is("and never behind it", NONE, () -> worn.over(1));
        due.is("drawn: on day 0 alone", 5, () -> worn.terms(0, 1, 5));
        due.is("drawn: never behind it", 0, () -> worn.terms(1, 1, 5));
        due.is("by the best docket", 1, () -> worn.best(1));
        BookBridge ahead = Due.bridge("book 9;case 0 1 0;case 1 9 0;plain 0 0 0 1 9;plain 0 0 0 10 10;");
        due.is("his days are all barred", NONE, () -> ahead.over(0));
        due.is("his only day is free", 10, () -> ahead.over(1));
    }

    @Says(promise = 15, value = "GETS OVER: the first DAY; NONE: none.")
    void firstDay() {
        BookBridge b = Due.bridge("book 9;book 9;case 0 2 0;case 0 2 1;flood 4;plain 0 0 0 0 63;plain 0 0 0 3 3;"
                + "plain 0 1 0 3 63;plain 0 0 10 0 63;farmer 0 0 0 0 0;");
        int[] days = {4, NONE, 3, NONE, 0};
        for (int i = 0; i < 5; i++) {
            int walker = i;
            due.is("walker " + i, days[i], () -> b.over(walker));
        }
        BookBridge longest = Due.bridge("book 9;" + "case 0 9 0;".repeat(7) + "plain 0 0 0 0 62;plain 0 0 0 0 63;");
        due.is("the longest term: a day too early", NONE, () -> longest.over(0));
        due.is("the longest term: the last day", 63, () -> longest.over(1));
        due.is("drawn: a day too early", 0, () -> longest.terms(0, 1, 3));
        due.is("drawn: the last day", 3, () -> longest.terms(1, 1, 3));
        due.is("one gets over by the best docket", 1, () -> longest.best(1));
        BookBridge floods = bridge("#-#", "plain 0 1 5 0 4;plain 0 1 5 0 5;flood 0;flood 1;flood 2;flood 3;flood 4;");
        due.is("floods on all of his days", NONE, () -> floods.over(0));
        due.is("but on his last", 5, () -> floods.over(1));
        due.is("drawn: floods on all", 0, () -> floods.terms(0, 1, 1));
        due.is("drawn: not on his last", 1, () -> floods.terms(1, 1, 1));
    }
}
