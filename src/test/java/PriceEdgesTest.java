/** Promises 23 to 29 with section 5, boundary by boundary. */
public final class PriceEdgesTest {
    /** Day 3; one rule of each sort, the last one dropped. */
    private static final Stand DAY3 = Stand.with(
        "room 0 1 0 0 60; room 1 3 0 2 60; price 2 0 60 100; price 0 5 10 7; rule 0 4 -10; rule 1 5 -20; rule 2 30 0;"
        + "rule 0 1 50; drop 3; over 2; promise 2 1 5 9 -1; next; next; next");

    public static void main(String[] args) {
        over();
        priceWants();
        priceNights();
        priceAmounts();
        ruleSorts();
        ruleNumbers();
        ruleEight();
        drop();
        costAsTold();
        costLength();
        costAhead();
        costPercentages();
        costCut();
        costLarge();
        nextNight();
        leastAsTold();
        leastOneOrSeveral();
        leastByDays();
        leastParts();
        leastNoWay();
        leastOfAPromise();
        count();
        Check.end();
    }

    private static void over() {
        DAY3.does("over 0", 1);
        DAY3.does("over 40", 1);
        DAY3.tells("over 2", 1);
        DAY3.and("over 0").tells("count 6", 0);
        DAY3.and("over 40").tells("count 6", 40);
        for (String k : new String[] {"-1", "41", "MIN", "MAX"}) {
            DAY3.refuses("over " + k, 0);
        }
        // at once and for later wishes alone: what is promised stays
        Stand full = Stand.with("over 1; room 0 0 0 0 60; promise 1 1 0 1 -1; promise 1 1 0 1 -1; over 0");
        full.tells("lacks 0", 1);
        full.tells("count 5", 2);
        full.refuses("promise 1 1 0 1 -1", -4);
        full.and("over 2").does("promise 1 1 0 1 -1", 2);
    }

    private static void priceWants() {
        for (int want = 0; want < 5; want++) {
            DAY3.does("price " + want + " 3 60 9", 1);
            Stand priced = DAY3.and("price " + want + " 3 60 9");
            for (int other = 0; other < 5; other++) {
                priced.tells("cost " + other + " 3 4", other == want ? 9 : other == 2 ? 100 : 0);
            }
        }
        for (String want : new String[] {"-1", "5", "MIN", "MAX"}) {
            DAY3.refuses("price " + want + " 0 60 9", 0);
        }
    }

    private static void priceNights() {
        DAY3.does("price 2 0 60 9", 1);
        DAY3.does("price 2 59 60 9", 1);
        DAY3.does("price 2 3 4 9", 1);
        DAY3.tells("price 2 0 3 9", 1);
        DAY3.tells("price 2 0 0 9", 1);
        DAY3.tells("price 2 60 60 9", 1);
        DAY3.tells("price 2 30 30 9", 1);
        DAY3.refuses("price 2 -1 60 9", 0);
        DAY3.refuses("price 2 -1 -1 9", 0);
        DAY3.refuses("price 2 0 61 9", 0);
        DAY3.refuses("price 2 61 61 9", 0);
        DAY3.refuses("price 2 31 30 9", 0);
        DAY3.refuses("price 2 MIN MAX 9", 0);
        DAY3.refuses("price 2 MAX MIN 9", 0);
        Stand some = DAY3.and("price 2 10 12 9");
        some.tells("cost 2 9 10", 80);
        some.tells("cost 2 10 11", 7);
        some.tells("cost 2 11 12", 7);
        some.tells("cost 2 12 13", 80);
        // nights that are over may be priced, though nobody asks what they cost any more
        Stand first = Stand.with("price 0 0 1 5");
        first.tells("cost 0 0 1", 5);
        first.tells("cost 0 1 2", 0);
        Stand.with("price 0 59 60 5").tells("cost 0 59 60", 5);
        Stand.with("price 0 59 60 5").tells("cost 0 58 59", 0);
    }

    private static void priceAmounts() {
        DAY3.does("price 2 3 60 0", 1);
        DAY3.does("price 2 3 60 1000000", 1);
        DAY3.and("price 2 3 60 0").tells("cost 2 3 60", 0);
        DAY3.and("price 2 3 4 1000000").tells("cost 2 3 4", 1000000);
        for (String amount : new String[] {"-1", "1000001", "MIN", "MAX"}) {
            DAY3.refuses("price 2 3 60 " + amount, 0);
            DAY3.refuses("price 2 3 3 " + amount, 0);
        }
        // what is promised keeps its price
        DAY3.and("price 2 3 60 0").tells("promised 0 6", 280);
    }

    private static void ruleSorts() {
        for (int sort = 0; sort < 3; sort++) {
            DAY3.does("rule " + sort + " 1 7", 4);
        }
        for (String sort : new String[] {"-1", "3", "MIN", "MAX"}) {
            DAY3.refuses("rule " + sort + " 1 7", -1);
        }
    }

    private static void ruleNumbers() {
        for (int sort = 0; sort < 2; sort++) {
            DAY3.does("rule " + sort + " 1 -100", 4);
            DAY3.does("rule " + sort + " 1 300", 4);
            DAY3.does("rule " + sort + " 60 -100", 4);
            DAY3.does("rule " + sort + " 60 300", 4);
            for (String n : new String[] {"-1", "0", "61", "MIN", "MAX"}) {
                DAY3.refuses("rule " + sort + " " + n + " 7", -1);
            }
            for (String percentage : new String[] {"-101", "301", "MIN", "MAX"}) {
                DAY3.refuses("rule " + sort + " 1 " + percentage, -1);
                DAY3.refuses("rule " + sort + " 60 " + percentage, -1);
            }
        }
        for (String percentage : new String[] {"MIN", "-101", "-100", "0", "300", "301", "MAX"}) {
            DAY3.does("rule 2 0 " + percentage, 4);
            DAY3.does("rule 2 58 " + percentage, 4);
            DAY3.and("rule 2 58 " + percentage).tells("cost 2 3 4", 100);
            DAY3.refuses("rule 2 -1 " + percentage, -1);
            DAY3.refuses("rule 2 59 " + percentage, -1);
        }
        for (String n : new String[] {"MIN", "MAX"}) {
            DAY3.refuses("rule 2 " + n + " 0", -1);
        }
    }

    private static void ruleEight() {
        Stand seven = DAY3.and("rule 0 1 1; rule 1 1 1; rule 2 40 0");
        for (int sort = 0; sort < 3; sort++) {
            seven.does("rule " + sort + " 2 3", 7);
            for (int last = 0; last < 3; last++) {
                seven.and("rule " + last + " 2 3").refuses("rule " + sort + " 2 3", -1);
            }
        }
        // one that is dropped leaves no number free
        Stand dropped = seven.and("rule 0 2 3; drop 7; drop 0");
        dropped.refuses("rule 0 2 3", -1);
        dropped.tells("count 7", 5);
        Stand.with("rule 0 1 1; drop 0").does("rule 0 1 1", 1);
        // one that was refused has none
        Stand.with("rule 3 1 1; rule 0 0 1; rule 2 59 0; rule 0 1 301").does("rule 0 1 1", 0);
    }

    private static void drop() {
        for (int k = 0; k < 3; k++) {
            DAY3.does("drop " + k, 1);
            DAY3.and("drop " + k).refuses("drop " + k, 0);
        }
        DAY3.refuses("drop 3", 0);
        for (String k : new String[] {"-1", "4", "7", "8", "MIN", "MAX"}) {
            DAY3.refuses("drop " + k, 0);
        }
        Stand full = DAY3.and("rule 0 1 1; rule 0 1 1; rule 0 1 1; rule 0 1 1");
        full.does("drop 7", 1);
        full.refuses("drop 8", 0);
        full.refuses("drop 3", 0);
        DAY3.tells("cost 2 3 7", 360);
        DAY3.and("drop 0").tells("cost 2 3 7", 400);
        DAY3.tells("cost 2 8 9", 80);
        DAY3.and("drop 1").tells("cost 2 8 9", 100);
        DAY3.tells("cost 2 30 31", -1);
        DAY3.and("drop 2").tells("cost 2 30 31", 80);
    }

    private static void costAsTold() {
        DAY3.tells("cost 2 3 4", 100);
        DAY3.refuses("cost 2 2 4", -1);
        DAY3.refuses("cost 2 -1 4", -1);
        DAY3.tells("cost 2 59 60", 80);
        DAY3.refuses("cost 2 59 61", -1);
        DAY3.refuses("cost 2 60 61", -1);
        DAY3.refuses("cost 2 60 60", -1);
        DAY3.refuses("cost 2 5 5", -1);
        DAY3.refuses("cost 2 6 5", -1);
        DAY3.refuses("cost 2 MIN MAX", -1);
        DAY3.refuses("cost 2 MAX MIN", -1);
        DAY3.refuses("cost 2 3 MAX", -1);
        DAY3.tells("cost 0 3 4", 0);
        DAY3.tells("cost 4 3 4", 0);
        for (String want : new String[] {"-1", "5", "MIN", "MAX"}) {
            DAY3.refuses("cost " + want + " 3 4", -1);
        }
        Stand.with("").tells("cost 2 0 60", 0);
        Stand.with("").refuses("cost 2 -1 60", -1);
        // a wish has a cost whether or not there is a room, and with 40 promises as well
        Stand.with("over 40; price 2 0 60 3;" + "promise 0 1 0 1 -1;".repeat(40)).tells("cost 2 0 1", 3);
    }

    private static void costLength() {
        Stand three = Stand.with("price 2 0 60 100; rule 0 3 -10");
        three.tells("cost 2 0 2", 200);
        three.tells("cost 2 0 3", 270);
        three.tells("cost 2 0 4", 360);
        three.tells("cost 2 57 60", 270);
        three.tells("cost 2 58 60", 200);
        Stand one = Stand.with("price 2 0 60 100; rule 0 1 -10");
        one.tells("cost 2 5 6", 90);
        Stand all = Stand.with("price 2 0 60 100; rule 0 60 -10");
        all.tells("cost 2 0 60", 5400);
        all.tells("cost 2 0 59", 5900);
        all.tells("cost 2 1 60", 5900);
    }

    private static void costAhead() {
        Stand five = Stand.with("price 2 0 60 100; rule 1 5 50");
        five.tells("cost 2 4 5", 100);
        five.tells("cost 2 5 6", 150);
        five.tells("cost 2 4 6", 200);
        five.days(1).tells("cost 2 5 6", 100);
        five.days(1).tells("cost 2 6 7", 150);
        Stand one = Stand.with("price 2 0 60 100; rule 1 1 50");
        one.tells("cost 2 0 1", 100);
        one.tells("cost 2 1 2", 150);
        one.days(1).tells("cost 2 1 2", 100);
        Stand far = Stand.with("price 2 0 60 100; rule 1 59 50; rule 1 60 50");
        far.tells("cost 2 59 60", 150);
        far.tells("cost 2 58 59", 100);
        far.days(1).tells("cost 2 59 60", 100);
    }

    /** The percentages are added up; together they go down to nothing and no further. */
    private static void costPercentages() {
        Stand base = Stand.with("price 2 0 60 200; rule 0 1 -60");
        base.tells("cost 2 0 1", 80);
        base.and("rule 0 1 -39").tells("cost 2 0 1", 2);
        base.and("rule 0 1 -40").tells("cost 2 0 1", 0);
        base.and("rule 0 1 -41").tells("cost 2 0 1", 0);
        base.and("rule 0 1 -100").tells("cost 2 0 1", 0);
        base.and("rule 0 1 -100; rule 0 1 61").tells("cost 2 0 1", 2);
        base.and("rule 0 1 -100; rule 0 1 60").tells("cost 2 0 1", 0);
        Stand.with("price 2 0 60 200; rule 0 1 -100").tells("cost 2 0 1", 0);
        Stand.with("price 2 0 60 200; rule 0 1 -99").tells("cost 2 0 1", 2);
        Stand.with("price 2 0 60 200; rule 0 1 300").tells("cost 2 0 1", 800);
        Stand.with("price 2 0 60 200; rule 0 1 0").tells("cost 2 0 1", 200);
        // a rule of sort 2 has no part in it, whatever its percentage is
        Stand.with("price 2 0 60 200; rule 2 9 -50").tells("cost 2 9 11", 400);
    }

    private static void costCut() {
        Stand.with("price 2 0 60 1; rule 0 1 99").tells("cost 2 0 1", 1);
        Stand.with("price 2 0 60 1; rule 0 1 100").tells("cost 2 0 1", 2);
        Stand.with("price 2 0 60 1; rule 0 1 -1").tells("cost 2 0 1", 0);
        Stand.with("price 2 0 60 99; rule 0 1 -1").tells("cost 2 0 1", 98);
        Stand.with("price 2 0 60 100; rule 0 1 -1").tells("cost 2 0 1", 99);
        // cut once for all nights, not night by night
        Stand.with("price 2 0 60 50; rule 0 1 -1").tells("cost 2 0 2", 99);
        // and once for all rules
        Stand.with("price 2 0 60 50; rule 0 1 -1; rule 0 1 -1").tells("cost 2 0 1", 49);
    }

    private static void costLarge() {
        Stand dear = Stand.with("price 4 0 60 1000000;" + "rule 0 60 300;".repeat(8));
        dear.tells("cost 4 0 60", 1500000000L);
        dear.tells("cost 4 0 59", 59000000L);
        dear.tells("least 4 0 60 0", 60000000L);
        dear.tells("least 4 0 60 1", 2);
        Stand whole = Stand.with("price 4 0 60 1000000;" + "rule 0 1 300;".repeat(8));
        whole.tells("least 4 0 60 0", 1500000000L);
        whole.tells("least 4 0 60 1", 1);
        Stand made = whole.and("over 1; promise 4 4 0 60 -1");
        made.tells("promised 0 6", 1500000000L);
    }

    /** Sort 2 looks only at where a wish ends. */
    private static void nextNight() {
        Stand ten = Stand.with("price 2 0 60 10; rule 2 10 0");
        ten.tells("cost 2 10 11", -1);
        ten.tells("cost 2 0 11", -1);
        ten.tells("cost 2 10 12", 20);
        ten.tells("cost 2 0 12", 120);
        ten.tells("cost 2 0 10", 100);
        ten.tells("cost 2 9 10", 10);
        ten.tells("cost 2 11 12", 10);
        ten.days(11).tells("cost 2 11 12", 10);
        Stand first = Stand.with("price 2 0 60 10; rule 2 0 0");
        first.tells("cost 2 0 1", -1);
        first.tells("cost 2 0 2", 20);
        first.tells("cost 2 1 2", 10);
        Stand last = Stand.with("price 2 0 60 10; rule 2 58 0");
        last.tells("cost 2 58 59", -1);
        last.tells("cost 2 58 60", 20);
        last.tells("cost 2 59 60", 10);
        last.tells("cost 2 57 58", 10);
        // it binds each want alike
        for (int want = 0; want < 5; want++) {
            ten.tells("cost " + want + " 10 11", -1);
            ten.tells("least " + want + " 10 11 0", -1);
        }
    }

    private static void leastAsTold() {
        DAY3.tells("least 2 3 4 0", 100);
        DAY3.tells("least 2 3 4 1", 1);
        DAY3.tells("least 2 59 60 0", 80);
        for (int what = 0; what < 2; what++) {
            DAY3.refuses("least 2 2 4 " + what, -1);
            DAY3.refuses("least 2 -1 4 " + what, -1);
            DAY3.refuses("least 2 59 61 " + what, -1);
            DAY3.refuses("least 2 60 60 " + what, -1);
            DAY3.refuses("least 2 5 5 " + what, -1);
            DAY3.refuses("least 2 6 5 " + what, -1);
            DAY3.refuses("least -1 3 4 " + what, -1);
            DAY3.refuses("least 5 3 4 " + what, -1);
            DAY3.refuses("least MIN 3 4 " + what, -1);
            DAY3.refuses("least MAX 3 4 " + what, -1);
            DAY3.refuses("least 2 MIN MAX " + what, -1);
            DAY3.refuses("least 2 MAX MIN " + what, -1);
        }
        for (String what : new String[] {"-1", "2", "MIN", "MAX"}) {
            DAY3.refuses("least 2 3 4 " + what, -1);
            DAY3.refuses("least 2 4 3 " + what, -1);
        }
        // 3 .. 7 in one: 21 less a tenth, cut; 8 .. 59: 14 less 30 of a hundred, cut
        DAY3.tells("least 0 3 60 0", 27);
        DAY3.tells("least 4 3 60 0", 0);
    }

    private static void leastOneOrSeveral() {
        // one wish is dearer from four nights on: three nights are one part, four are two
        Stand dear = Stand.with("price 2 0 60 10; rule 0 4 100");
        dear.tells("least 2 0 3 0", 30);
        dear.tells("least 2 0 3 1", 1);
        dear.tells("least 2 0 4 0", 40);
        dear.tells("least 2 0 4 1", 2);
        dear.tells("least 2 0 6 1", 2);
        dear.tells("least 2 0 7 1", 3);
        dear.tells("least 2 0 60 0", 600);
        dear.tells("least 2 0 60 1", 20);
        // one wish is cheaper from four nights on: no splitting
        Stand cheap = Stand.with("price 2 0 60 10; rule 0 4 -50");
        cheap.tells("least 2 0 3 0", 30);
        cheap.tells("least 2 0 4 0", 20);
        cheap.tells("least 2 0 4 1", 1);
        cheap.tells("least 2 0 8 1", 1);
        // every night of its own: cutting makes sixty parts cheaper
        Stand cut = Stand.with("price 2 0 60 1; rule 0 1 99");
        cut.tells("cost 2 0 60", 119);
        cut.tells("least 2 0 60 0", 60);
        cut.tells("least 2 0 60 1", 60);
        cut.tells("least 2 58 60 1", 2);
        cut.tells("least 2 59 60 1", 1);
    }

    /** Each part is asked by its own first night. */
    private static void leastByDays() {
        Stand ahead = Stand.with("price 2 0 60 100; rule 1 3 -50");
        ahead.tells("cost 2 2 5", 300);
        ahead.tells("least 2 2 5 0", 200);
        ahead.tells("least 2 2 5 1", 2);
        ahead.tells("least 2 3 5 0", 100);
        ahead.tells("least 2 3 5 1", 1);
        ahead.tells("least 2 0 3 1", 1);
        ahead.tells("least 2 0 4 1", 2);
        ahead.days(1).tells("least 2 3 5 0", 150);
        ahead.days(1).tells("least 2 2 5 0", 250);
        Stand dearer = Stand.with("price 2 0 60 100; rule 1 3 50");
        dearer.tells("least 2 2 5 0", 300);
        dearer.tells("least 2 2 5 1", 1);
        dearer.tells("least 2 3 5 0", 300);
    }

    private static void leastParts() {
        Stand.with("").tells("least 2 0 60 1", 1);
        Stand.with("price 2 0 60 100; rule 0 1 -100").tells("least 2 0 60 1", 1);
        Stand same = Stand.with("price 2 0 60 100; rule 0 2 -10; rule 0 5 10");
        same.tells("least 2 0 4 0", 360);
        same.tells("least 2 0 4 1", 1);
        same.tells("least 2 0 5 0", 450);
        same.tells("least 2 0 5 1", 2);
        same.tells("least 2 0 8 1", 2);
        same.tells("least 2 0 9 1", 3);
        // 0 .. 3 and 4 cost 99 and 40; 0, 1 and 2 .. 4 cost 100, 9 and 30: as much, with one part more
        Stand tie = Stand.with("price 2 0 1 100; price 2 1 2 10; price 2 4 5 100; rule 1 1 -10; rule 1 2 -50; rule 0 3 -10");
        tie.tells("cost 2 0 4", 99);
        tie.tells("cost 2 4 5", 40);
        tie.tells("cost 2 0 1", 100);
        tie.tells("cost 2 1 2", 9);
        tie.tells("cost 2 2 5", 30);
        tie.tells("least 2 0 5 0", 139);
        tie.tells("least 2 0 5 1", 2);
    }

    private static void leastNoWay() {
        Stand ruled = Stand.with("price 2 0 60 10; rule 0 3 100; rule 2 4 0");
        ruled.tells("least 2 0 5 0", -1);
        ruled.tells("least 2 0 5 1", -1);
        ruled.tells("least 2 4 5 0", -1);
        ruled.tells("least 2 4 6 0", 20);
        // 4 and 5 stay together, so the cuts go elsewhere
        ruled.tells("least 2 3 6 0", 30);
        ruled.tells("least 2 3 6 1", 2);
        ruled.tells("least 2 3 7 0", 40);
        ruled.tells("least 2 3 7 1", 3);
        ruled.and("drop 1").tells("least 2 3 7 1", 2);
        // three in a row that stay together cannot be cut cheaper
        Stand row = ruled.and("rule 2 5 0");
        row.tells("least 2 4 7 0", 60);
        row.tells("least 2 4 7 1", 1);
        row.tells("least 2 4 6 0", -1);
        row.tells("least 2 5 6 0", -1);
        row.tells("least 2 6 7 0", 10);
    }

    private static void leastOfAPromise() {
        Stand cut = Stand.with("room 0 1 0 0 60; price 2 0 60 10; rule 0 4 100; promise 2 1 0 4 -1");
        cut.tells("promised 0 6", 40);
        cut.tells("cost 2 0 4", 80);
        cut.and("change 0 0 3").tells("promised 0 6", 30);
        cut.and("price 2 0 60 20").tells("promised 0 6", 40);
        cut.and("price 2 0 60 20; change 0 0 4").tells("promised 0 6", 80);
        cut.and("price 2 0 60 20; change 0 0 61").tells("promised 0 6", 40);
        // by the day on which it is made or changed
        Stand ahead = Stand.with("room 0 1 0 0 60; price 2 0 60 100; rule 1 3 -50; promise 2 1 3 4 -1; next");
        ahead.tells("promised 0 6", 50);
        ahead.does("change 0 3 4", 0);
        ahead.and("change 0 3 4").tells("promised 0 6", 100);
    }

    private static void count() {
        Stand all = Stand.with("room 0 1 0 0 60; room 1 1 0 0 60; room 2 0 0 0 60; store 3; store 4; door 0; over 3;"
            + "rule 0 1 0; rule 0 1 0; drop 0; promise 1 1 0 1 -1; promise 1 1 1 2 9; promise 1 1 1 3 9;"
            + "promise 1 1 2 3 9; cancel 3; next; come 1");
        int[] due = {1, 3, 2, 1, 4, 2, 3, 1};
        for (int what = 0; what < due.length; what++) {
            all.tells("count " + what, due[what]);
        }
        for (String what : new String[] {"-1", "8", "MIN", "MAX"}) {
            all.refuses("count " + what, -1);
        }
        all.and("close 2").tells("count 1", 3);
        all.and("firm 2").tells("count 5", 2);
        all.and("cancel 2").tells("count 5", 1);
        all.days(1).tells("count 5", 0);
    }
}
