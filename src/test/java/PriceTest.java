/** Promises 23 to 29: over, prices, rules, costs, and counts. */
public final class PriceTest {
    public static void main(String[] args) {
        over();
        price();
        rule();
        drop();
        cost();
        costByDay();
        costNotAsTold();
        least();
        leastAgainstSplitting();
        leastFewestParts();
        leastNoWay();
        count();
        Check.end();
    }

    private static void over() {
        GuestHouse x = new GuestHouse();
        Check.no("over(-1)", x.over(-1));
        Check.no("over(41)", x.over(41));
        Check.due("count(6)", x.count(6), 0);
        Check.yes("over(40)", x.over(40));
        Check.due("count(6)", x.count(6), 40);
        Check.due("promised over", x.promise(0, 1, 0, 1, -1), 0);
        Check.yes("over(0)", x.over(0));
        Check.due("count(6)", x.count(6), 0);
        Check.due("not any more", x.can(0, 1, 0, 1), 3);
    }

    private static void price() {
        GuestHouse x = new GuestHouse();
        Check.yes("all nights", x.price(0, 0, 60, 5));
        Check.yes("two nights", x.price(0, 3, 5, 1000000));
        Check.yes("for nothing", x.price(0, 4, 5, 0));
        Check.yes("no night", x.price(0, 60, 60, 9));
        Check.yes("no night", x.price(0, 7, 7, 9));
        Check.no("from -1", x.price(0, -1, 5, 9));
        Check.no("to 61", x.price(0, 0, 61, 9));
        Check.no("to below from", x.price(0, 5, 4, 9));
        Check.no("amount -1", x.price(0, 0, 60, -1));
        Check.no("amount 1000001", x.price(0, 0, 60, 1000001));
        Check.no("want -1", x.price(-1, 0, 60, 9));
        Check.no("want 5", x.price(5, 0, 60, 9));
        long[] due = {5, 5, 5, 1000000, 0, 5, 5, 5};
        for (int n = 0; n < due.length; n++) {
            Check.due("night " + n, x.cost(0, n, n + 1), due[n]);
        }
        Check.due("another want", x.cost(1, 0, 60), 0);
    }

    private static void rule() {
        GuestHouse x = new GuestHouse();
        Check.due("sort -1", x.rule(-1, 1, 0), -1);
        Check.due("sort 3", x.rule(3, 1, 0), -1);
        for (int sort = 0; sort < 2; sort++) {
            Check.due("n 0", x.rule(sort, 0, 0), -1);
            Check.due("n 61", x.rule(sort, 61, 0), -1);
            Check.due("percentage -101", x.rule(sort, 1, -101), -1);
            Check.due("percentage 301", x.rule(sort, 1, 301), -1);
        }
        Check.due("n -1 of sort 2", x.rule(2, -1, 0), -1);
        Check.due("n 59 of sort 2", x.rule(2, 59, 0), -1);
        Check.due("none", x.count(7), 0);
        Check.due("lowest", x.rule(0, 1, -100), 0);
        Check.due("highest", x.rule(0, 60, 300), 1);
        Check.due("lowest", x.rule(1, 1, -100), 2);
        Check.due("highest", x.rule(1, 60, 300), 3);
        Check.due("any percentage", x.rule(2, 0, Integer.MIN_VALUE), 4);
        Check.due("any percentage", x.rule(2, 58, Integer.MAX_VALUE), 5);
        Check.due("one more", x.rule(0, 1, 0), 6);
        Check.due("the eighth", x.rule(0, 1, 0), 7);
        Check.due("a ninth", x.rule(0, 1, 0), -1);
        Check.yes("drop", x.drop(6));
        Check.due("numbers stay", x.rule(0, 1, 0), -1);
        Check.due("that hold", x.count(7), 7);
    }

    private static void drop() {
        GuestHouse x = new GuestHouse();
        x.price(0, 0, 60, 100);
        x.rule(0, 1, 50);
        x.rule(2, 5, 0);
        Check.no("none such", x.drop(2));
        Check.no("none such", x.drop(-1));
        Check.no("none such", x.drop(8));
        Check.due("both hold", x.cost(0, 0, 1), 150);
        Check.due("both hold", x.cost(0, 5, 6), -1);
        Check.yes("drop(0)", x.drop(0));
        Check.no("it does not hold", x.drop(0));
        Check.due("one holds", x.count(7), 1);
        Check.due("price alone", x.cost(0, 0, 1), 100);
        Check.due("still not allowed", x.cost(0, 5, 6), -1);
        Check.yes("drop(1)", x.drop(1));
        Check.due("allowed", x.cost(0, 5, 6), 100);
        Check.due("the next number", x.rule(0, 1, 1), 2);
    }

    private static void cost() {
        GuestHouse x = new GuestHouse();
        x.price(1, 0, 60, 33);
        x.price(2, 0, 60, 1000000);
        x.rule(0, 2, -10);
        Check.due("one night", x.cost(1, 0, 1), 33);
        Check.due("66 less a tenth, cut", x.cost(1, 0, 2), 59);
        Check.due("99 less a tenth, cut", x.cost(1, 0, 3), 89);
        x.rule(0, 3, -5);
        Check.due("percentages are added", x.cost(1, 0, 3), 84);
        x.rule(1, 4, 20);
        Check.due("3 days ahead", x.cost(1, 3, 4), 33);
        Check.due("4 days ahead", x.cost(1, 4, 5), 39);
        Check.due("all three", x.cost(1, 4, 7), 103);
        x.rule(0, 5, -100);
        Check.due("nothing left", x.cost(1, 0, 5), 0);
        x.rule(0, 6, -100);
        Check.due("never below 0", x.cost(1, 0, 6), 0);
        x.rule(0, 60, 300);
        x.rule(0, 60, 300);
        Check.due("large", x.cost(2, 0, 60), 60L * 1000000L * 485L / 100L);
    }

    private static void costByDay() {
        GuestHouse x = new GuestHouse();
        x.price(0, 0, 60, 100);
        x.rule(1, 2, -50);
        Check.due("two days ahead", x.cost(0, 2, 3), 50);
        x.next();
        Check.due("one day ahead", x.cost(0, 2, 3), 100);
        Check.due("two days ahead", x.cost(0, 3, 4), 50);
        Check.due("ahead of the day", x.cost(0, 0, 4), -1);
        x.next();
        Check.due("parts begin days ahead of their own", x.least(0, 2, 6, 0), 300);
        Check.due("all but the first two nights", x.least(0, 2, 6, 1), 2);
    }

    private static void costNotAsTold() {
        GuestHouse x = new GuestHouse();
        Check.due("want -1", x.cost(-1, 0, 1), -1);
        Check.due("want 5", x.cost(5, 0, 1), -1);
        Check.due("from -1", x.cost(0, -1, 1), -1);
        Check.due("no night", x.cost(0, 1, 1), -1);
        Check.due("to 61", x.cost(0, 1, 61), -1);
        Check.due("want -1", x.least(-1, 0, 1, 0), -1);
        Check.due("want 5", x.least(5, 0, 1, 0), -1);
        Check.due("from -1", x.least(0, -1, 1, 0), -1);
        Check.due("no night", x.least(0, 1, 1, 1), -1);
        Check.due("to 61", x.least(0, 1, 61, 1), -1);
        Check.due("what -1", x.least(0, 0, 1, -1), -1);
        Check.due("what 2", x.least(0, 0, 1, 2), -1);
        x.next();
        Check.due("ahead of the day", x.least(0, 0, 1, 0), -1);
        x.rule(2, 0, 0);
        x.rule(2, 58, 0);
        Check.due("a night that is over binds nobody", x.cost(0, 1, 2), 0);
        Check.due("58 without 59", x.cost(0, 50, 59), -1);
        Check.due("58 with 59", x.cost(0, 50, 60), 0);
    }

    private static void least() {
        GuestHouse x = new GuestHouse();
        x.price(3, 0, 60, 10);
        Check.due("one wish", x.least(3, 0, 60, 0), 600);
        Check.due("one part", x.least(3, 0, 60, 1), 1);
        x.rule(0, 4, 100);
        Check.due("dearer from four nights on", x.cost(3, 0, 7), 140);
        Check.due("so it is split", x.least(3, 0, 7, 0), 70);
        Check.due("into three", x.least(3, 0, 7, 1), 3);
        Check.due("six nights: two", x.least(3, 0, 6, 1), 2);
        Check.due("60 nights: twenty", x.least(3, 0, 60, 1), 20);
        GuestHouse y = new GuestHouse();
        y.price(0, 0, 60, 50);
        y.rule(0, 1, -1);
        Check.due("99 of two nights", y.cost(0, 0, 2), 99);
        Check.due("cutting twice is cheaper", y.least(0, 0, 2, 0), 98);
        Check.due("and makes two parts", y.least(0, 0, 2, 1), 2);
    }

    private static void leastAgainstSplitting() {
        GuestHouse x = new GuestHouse();
        x.price(0, 0, 60, 100);
        x.rule(0, 2, 50);
        x.rule(2, 3, 0);
        Check.due("3 and 4 must be together", x.least(0, 2, 6, 0), 100 + 300 + 100);
        Check.due("three parts", x.least(0, 2, 6, 1), 3);
        x.room(0, 3, 0, 2, 60);
        x.promise(0, 1, 2, 6, -1);
        Check.promised(x, 0, 6, 500);
        x.drop(0);
        Check.promised(x, 0, 6, 500);
        Check.due("anew", x.change(0, 2, 6), 0);
        Check.promised(x, 0, 6, 400);
    }

    private static void leastFewestParts() {
        GuestHouse x = new GuestHouse();
        Check.due("for nothing, in one", x.least(4, 0, 60, 1), 1);
        x.price(0, 0, 60, 100);
        x.rule(0, 3, -10);
        Check.due("seven nights", x.least(0, 0, 7, 0), 630);
        Check.due("in one, not in two", x.least(0, 0, 7, 1), 1);
        x.rule(0, 6, 10);
        Check.due("two parts of three or four", x.least(0, 0, 7, 0), 630);
        Check.due("two", x.least(0, 0, 7, 1), 2);
    }

    private static void leastNoWay() {
        GuestHouse x = new GuestHouse();
        x.price(0, 0, 60, 100);
        x.rule(2, 4, 0);
        x.rule(2, 5, 0);
        Check.due("ends behind 4", x.least(0, 0, 5, 0), -1);
        Check.due("ends behind 5", x.least(0, 5, 6, 1), -1);
        Check.due("ends behind 6", x.least(0, 0, 7, 0), 700);
        Check.due("ends behind 3", x.least(0, 0, 4, 0), 400);
    }

    private static void count() {
        GuestHouse x = new GuestHouse();
        x.room(0, 1, 0, 0, 60);
        x.room(1, 1, 0, 0, 60);
        x.room(2, 0, 0, 0, 60);
        x.store(3);
        x.store(4);
        x.door(0);
        x.over(3);
        x.rule(0, 1, 0);
        x.rule(0, 1, 0);
        x.drop(0);
        x.promise(1, 1, 0, 1, -1);
        x.promise(1, 1, 1, 2, 9);
        x.promise(1, 1, 1, 3, 9);
        x.promise(1, 1, 2, 3, 9);
        x.cancel(3);
        x.next();
        x.come(1);
        int[] due = {1, 3, 2, 1, 4, 2, 3, 1};
        for (int what = 0; what < due.length; what++) {
            Check.due("count(" + what + ")", x.count(what), due[what]);
        }
        Check.due("count(8)", x.count(8), -1);
        Check.due("count(-1)", x.count(-1), -1);
    }
}
