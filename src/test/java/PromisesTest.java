/** For each promise: ordinary inputs, the edges that the document names, and wrong inputs, worked out by hand. */
public final class PromisesTest {
    private static final int BAD = -1002, OTHER = -1003, NOTHING = -1004, STUCK = -1005, FULL = -1006, NONE = -1;
    private static int wrong;
    private static int promise;
    private static int nth;
    private static Counted x;

    private static void about(int number) {
        promise = number;
        nth = 0;
        x = new Counted();
    }

    private static void due(long want, long got) {
        nth++;
        if (want != got) {
            wrong++;
            System.out.println("promise " + promise + ", check " + nth + ": answered " + got + ", due is " + want);
        }
    }

    private static int read(String text) {
        for (char c : text.toCharArray()) {
            x.feed(c);
        }
        return x.tower();
    }

    private static void cells(int s, int sort, long... values) {
        x.row(s, sort, values.length);
        for (int i = 0; i < values.length; i++) {
            x.set(s, i, values[i]);
        }
    }

    /**
     * One of each kind, nobody in the tower. MASS 12 18 20 8 15 4, BEARS 50 36 65 24 84 6, TALLNESS 2 3 2 5 2 1.
     */
    private static void six() {
        x.person(0, 1, 12, 50, 9);
        x.person(1, 4, 14, 40, 12);
        x.person(2, 5, 20, 60, 4);
        x.person(3, 6, 10, 30, 20);
        x.person(4, 2, 15, 40, 8);
        x.person(5, 7, 9, 12, 30);
        x.tell(0, 3);
        x.tell(1, 6);
    }

    /** 4, 2, 0, 5 from the foot on: LOAD 36 16 4 0, SLACK 48 49 46 6, UP 0 2 4 6. */
    private static void four() {
        six();
        x.climb(4);
        x.climb(2);
        x.climb(0);
        x.climb(5);
    }

    /** Three who bear anything and shake in nothing, one who shakes in any wind. */
    private static void firmThree() {
        for (int k = 0; k < 3; k++) {
            x.person(0, k, 1, 99, 40);
        }
    }

    private static void shelves() {
        about(1);
        for (int s = 0; s < 8; s++) due(NONE, x.holds(s));
        int[] fresh = {0, 0, 2, 5, 0, 0, 0, 1, 0};
        for (int what = 0; what < fresh.length; what++) due(fresh[what], x.status(what));
        for (int what = 12; what <= 16; what++) due(0, x.status(what));
        due(-2000, x.tower());

        about(2);
        due(1, x.row(0, 0, 0)); due(1, x.row(7, 4, 40)); due(0, x.holds(0)); due(4, x.holds(7));
        due(BAD, x.row(-1, 0, 0)); due(BAD, x.row(8, 0, 0)); due(BAD, x.row(0, -1, 0)); due(BAD, x.row(0, 5, 0));
        due(BAD, x.row(0, 0, -1)); due(BAD, x.row(0, 0, 41)); due(6, x.status(12)); due(2, x.status(8));
        x.set(7, 39, 1); due(1, x.row(7, 4, 40)); due(0, x.element(7, 39));
        x.person(0, 0, 1, 0, 0); x.show(1, 0); due(1, x.row(1, 2, 3)); due(2, x.holds(1)); due(0, x.element(1, 0));

        about(3);
        for (int sort = 0; sort < 5; sort++) x.row(sort, sort, 2);
        due(1, x.set(0, 1, 200)); due(-56, x.element(0, 1)); due(1, x.set(0, 0, 256)); due(0, x.element(0, 0));
        due(1, x.set(1, 0, 40000)); due(-25536, x.element(1, 0));
        due(1, x.set(2, 0, (1L << 32) + 7)); due(7, x.element(2, 0)); x.set(2, 0, 1L << 31); due(-2147483648L, x.element(2, 0));
        due(1, x.set(3, 0, Long.MIN_VALUE)); due(Long.MIN_VALUE, x.element(3, 0));
        due(1, x.set(4, 0, 1L << 40)); due(1, x.element(4, 0)); x.set(4, 0, -1); due(1, x.element(4, 0));
        x.set(4, 0, 0); due(0, x.element(4, 0));
        due(BAD, x.set(-1, 0, 0)); due(BAD, x.set(8, 0, 0)); due(BAD, x.set(0, 2, 0)); due(BAD, x.set(0, -1, 0));
        due(NOTHING, x.set(5, 0, 0)); due(NOTHING, x.set(5, 99, 0));
        x.person(0, 0, 1, 0, 0); x.show(6, 0); due(OTHER, x.set(6, 99, 0)); due(OTHER, x.set(6, 0, 0));

        about(4);
        cells(0, 2, 1, 2, 3, 4, 5);
        due(3, x.copy(0, 0, 0, 1, 3));
        due(1, x.element(0, 0)); due(1, x.element(0, 1)); due(2, x.element(0, 2)); due(3, x.element(0, 3)); due(5, x.element(0, 4));
        x.copy(0, 0, 2, 0, 3); due(2, x.element(0, 0)); due(3, x.element(0, 1)); due(5, x.element(0, 2));
        x.row(1, 2, 2); due(2, x.copy(0, 1, 3, 0, 2)); due(3, x.element(1, 0)); due(5, x.element(1, 1));
        due(0, x.copy(0, 1, 5, 2, 0)); due(BAD, x.copy(0, 1, 6, 0, 0)); due(BAD, x.copy(0, 1, 0, 3, 0));
        due(BAD, x.copy(0, 1, 0, 0, 3)); due(BAD, x.copy(1, 0, 0, 0, 3)); due(BAD, x.copy(0, 1, -1, 0, 1));
        due(BAD, x.copy(0, 1, 0, -1, 1)); due(BAD, x.copy(0, 1, 0, 0, -1)); due(BAD, x.copy(0, 1, Integer.MAX_VALUE, 0, 2));
        due(BAD, x.copy(0, 1, 0, Integer.MAX_VALUE, Integer.MAX_VALUE));
        due(BAD, x.copy(8, 0, 0, 0, 1)); due(BAD, x.copy(0, -1, 0, 0, 1));
        x.row(2, 3, 2); due(OTHER, x.copy(0, 2, 0, 0, 1)); due(OTHER, x.copy(0, 2, 0, 0, 99));
        due(NOTHING, x.copy(0, 3, 0, 0, 1)); due(NOTHING, x.copy(3, 0, 0, 0, 99)); due(NOTHING, x.copy(3, 3, 0, 0, 0));
        x.person(0, 0, 1, 0, 0); x.show(4, 0);
        due(OTHER, x.copy(4, 0, 0, 0, 1)); due(OTHER, x.copy(0, 4, 0, 0, 1)); due(OTHER, x.copy(4, 3, 0, 0, 1));
        due(OTHER, x.copy(3, 4, 0, 0, 1)); due(BAD, x.copy(4, 8, 0, 0, 1));

        about(5);
        cells(0, 3, 7, 1L << 50);
        due(7, x.element(0, 0)); due(1L << 50, x.element(0, 1)); due(0, x.element(0, 2)); due(0, x.element(0, -1));
        due(0, x.element(1, 0)); due(0, x.element(8, 0)); due(0, x.element(-1, 0)); due(0, x.status(12) + x.status(14));
        x.person(0, 0, 1, 0, 0); x.show(2, 0); due(0, x.element(2, 0)); due(0, x.status(13));

        about(6);
        six();
        x.show(0, 5); due(15, x.holds(0)); x.show(0, 0); due(10, x.holds(0)); due(NONE, x.holds(8)); due(NONE, x.holds(-1));
        due(NONE, x.holds(1)); x.row(1, 1, 0); due(1, x.holds(1)); due(0, x.status(12));

        about(7);
        due(BAD, x.show(0, 0)); due(1, x.show(0, NONE)); six();
        due(1, x.show(0, 5)); due(BAD, x.show(0, 6)); due(BAD, x.show(0, -2)); due(BAD, x.show(8, 0)); due(BAD, x.show(-1, NONE));
        due(15, x.holds(0)); due(1, x.status(8)); due(1, x.show(0, NONE)); due(NONE, x.holds(0)); due(0, x.status(8));
        x.row(0, 0, 3); due(1, x.show(0, NONE)); due(NONE, x.holds(0)); x.row(0, 0, 3); x.show(0, 1); due(11, x.holds(0));

        about(8);
        six();
        for (int k = 0; k < 6; k++) x.show(k, k);
        int[] says = {9, 3, 65, 5, 84, 4};
        int[] nerves = {9, 12, 4, 20, 8, 30};
        for (int k = 0; k < 6; k++) { due(says[k], x.says(k, k)); due(nerves[k], x.says(k, 0)); }
        // taken for a lesser kind he says what that kind says, reckoned by his own
        due(5, x.says(3, 1)); due(84, x.says(4, 2)); x.give(3, 2, 40); due(40, x.says(3, 0)); x.give(4, 1, 0); due(4, x.says(4, 2));
        due(OTHER, x.says(0, 1)); due(OTHER, x.says(0, 5)); due(OTHER, x.says(1, 3)); due(OTHER, x.says(2, 4));
        due(OTHER, x.says(1, 2)); due(OTHER, x.says(3, 2)); due(OTHER, x.says(4, 1)); due(OTHER, x.says(5, 4));
        due(NOTHING, x.says(6, 0)); x.row(6, 0, 1); due(OTHER, x.says(6, 0));
        due(BAD, x.says(8, 0)); due(BAD, x.says(-1, 0)); due(BAD, x.says(0, 6)); due(BAD, x.says(7, -1));
    }

    private static void peopleAndTape() {
        about(9);
        due(0, x.person(0, 0, 1, 0, 0)); due(1, x.person(5, 9, 40, 99, 40));
        int[][] bad = {{-1, 0, 1, 0, 0}, {6, 0, 1, 0, 0}, {0, -1, 1, 0, 0}, {0, 10, 1, 0, 0}, {0, 0, 0, 0, 0},
            {0, 0, 41, 0, 0}, {0, 0, 1, -1, 0}, {0, 0, 1, 100, 0}, {0, 0, 1, 0, -1}, {0, 0, 1, 0, 41}};
        for (int[] b : bad) due(BAD, x.person(b[0], b[1], b[2], b[3], b[4]));
        for (int k = 2; k < 8; k++) due(k, x.person(0, 0, 1, 0, 0));
        due(FULL, x.person(0, 0, 1, 0, 0)); due(BAD, x.person(6, 0, 1, 0, 0)); due(8, x.status(0)); due(1, x.status(16));

        about(10);
        six();
        due(14, x.give(1, 0, 40)); due(40, x.give(1, 0, 1)); due(40, x.give(1, 1, 0)); due(12, x.give(1, 2, 40));
        due(1, x.personOf(1, 2)); due(0, x.personOf(1, 3)); due(40, x.personOf(1, 4)); due(5, x.personOf(1, 5)); due(0, x.personOf(1, 6));
        due(BAD, x.give(1, 0, 0)); due(BAD, x.give(1, 0, 41)); due(BAD, x.give(1, 1, -1)); due(BAD, x.give(1, 1, 100));
        due(BAD, x.give(1, 2, -1)); due(BAD, x.give(1, 2, 41)); due(BAD, x.give(1, 3, 1)); due(BAD, x.give(1, -1, 1));
        due(BAD, x.give(6, 0, 1)); due(BAD, x.give(-1, 0, 1)); due(1, x.give(1, 0, 2)); due(0, x.give(1, 1, 99)); due(60, x.give(2, 1, 1));

        about(11);
        firmThree();
        due(2, x.tell(0, 0)); due(0, x.tell(0, 9)); due(5, x.tell(1, 8)); due(8, x.tell(1, 1)); due(0, x.tell(2, 999)); due(999, x.tell(2, 0));
        x.tell(1, 4); x.climb(0); x.climb(1); due(4, x.tell(1, 2)); due(BAD, x.tell(1, 1)); due(2, x.status(3));
        due(BAD, x.tell(0, -1)); due(BAD, x.tell(0, 10)); due(BAD, x.tell(1, 9)); due(BAD, x.tell(1, 0)); due(BAD, x.tell(2, -1));
        due(BAD, x.tell(2, 1000)); due(BAD, x.tell(3, 1)); due(BAD, x.tell(-1, 1)); due(9, x.status(2));

        about(12);
        due(1, x.feed(0)); due(2, x.feed(255)); due(BAD, x.feed(256)); due(BAD, x.feed(-1)); due(2, x.status(6));
        for (int k = 3; k <= 250; k++) due(k, x.feed('a'));
        due(FULL, x.feed('a')); due(BAD, x.feed(999)); due(250, x.status(6)); due(1, x.status(16));

        about(13);
        due(0, x.wipe()); x.feed('d'); x.feed(' '); due(2, x.wipe()); due(0, x.wipe()); due(-2000, x.tower());
        for (int k = 0; k < 250; k++) x.feed(' ');
        due(250, x.wipe()); due(1, x.feed(1));
    }

    /** Three people, MOST 2, number 0 in the tower. */
    private static void threeOfText() {
        about(14);
        x.person(0, 1, 12, 50, 9);
        x.person(1, 4, 14, 40, 12);
        x.person(5, 7, 9, 12, 30);
        x.tell(1, 2);
        x.climb(0);
    }

    private static void texts() {
        about(14);
        due(10, read("person 0 1 12 50 9;person1 4 14 40 12 ; person 5 007 9 12 30;wind 3;most 2;climb 1;climb 2;day 999;down;climb 0"));
        due(0, x.status(6)); due(3, x.status(0)); due(1, x.status(1)); due(3, x.status(2)); due(2, x.status(3)); due(999, x.status(4));
        due(0, x.at(0)); due(7, x.personOf(2, 1)); due(12, x.personOf(2, 3)); due(1, x.personOf(1, 0)); due(0, x.status(12));
        threeOfText();
        due(1, read("down")); due(0, x.status(1)); due(1, read("  wind9  ")); due(2, read("wind 0;wind 1")); due(1, x.status(2));
        // all of it or nothing
        due(-2022, read("wind 5;climb 2; climb 2")); due(1, x.status(2)); due(0, x.status(1)); due(0, x.status(6)); due(1, x.status(12));
        about(14);
        due(-2000, read("")); due(-2003, read("   ")); due(-2000, read(";")); due(-2005, read("down;")); due(-2007, read("down ; ") );
        due(-2005, read("down;;")); due(-2005, read("down down")); due(-2005, read("down 1")); due(-2000, read("downs")); due(-2000, read("dow"));
        due(-2000, read("downz")); due(-2004, read("down{")); due(-2004, read("down`")); due(-2004, read("wind/")); due(-2004, read("wind:"));
        due(-2000, read("7")); due(-2000, read("Wind 3")); due(-2005, read("wind .3")); due(-2006, read("wind 3.")); due(-2005, read("wind ;"));
        due(-2005, read("wind x")); due(-2004, read("wind")); due(-2005, read("wind ")); due(-2004, read("wind10")); due(-2005, read("wind 0003"));
        threeOfText();
        due(1, read("wind 003")); due(-2007, read("wind 3 4")); due(-2005, read("most 9")); due(-2005, read("most 0")); due(1, read("most 8"));
        due(-2004, read("day 1000")); due(1, read("day 0")); due(-2004, read("day -1")); due(-2006, read("climb 3")); due(-2006, read("climb 99999999999"));
        due(-2005, read("climb")); due(-2005, read("climb;")); due(2, read("climb 2;climb 1")); due(-2005, read("most 1")); due(2, read("down;most 1"));
        // what there is no room for: its word, whatever comes behind it
        threeOfText();
        x.climb(2); x.climb(1); read("down;most 1");
        due(-2008, read("climb 0;climb 1")); due(-2010, read("climb 0 ; climb")); due(-2008, read("climb 0;climb x")); due(0, x.status(1));
        due(1, read("climb 0")); due(-2012, read("most2;climb 0")); due(-2000, read("climb 9"));
        due(3, read("down;most 3;climb 2")); due(-2006, read("climb 2"));
        for (int k = 3; k < 8; k++) due(1, read("person 0 0 1 0 0"));
        due(-2000, read("person 0 0 1 0 0")); due(-2007, read("wind 1;person")); due(8, x.status(0));

        about(14);
        String[] bad = {"person 6 0 1 0 0", "person 0 10 1 0 0", "person 0 0 0 0 0", "person 0 0 41 0 0", "person 0 0 1 100 0",
            "person 0 0 1 0 41", "person 0 0 1 0", "person 0 0 1 0;", "person 0 0 1 0 0 0", "person 0 0 1 0000 0", "person 00100"};
        int[] fault = {7, 9, 11, 11, 13, 15, 14, 14, 17, 13, 7};
        for (int k = 0; k < bad.length; k++) due(-2000 - fault[k], read(bad[k]));
        due(0, x.status(0)); due(bad.length, x.status(12));
        // it is on top whether it stands or not, and a crowd grows within one text
        due(4, read("person 5 0 40 0 0;person 0 0 40 99 0;climb 0;climb 1")); due(0, x.stands()); due(2, x.status(1)); due(0, x.status(5));
        due(-2000 - 250, read(" ".repeat(260)));
    }

    private static void bearing() {
        about(15);
        six();
        int[][] facts = {{0, 1, 12, 50, 9, 12, 50, 2}, {1, 4, 14, 40, 12, 18, 36, 3}, {2, 5, 20, 60, 4, 20, 65, 2},
            {3, 6, 10, 30, 20, 8, 24, 5}, {4, 2, 15, 40, 8, 15, 84, 2}, {5, 7, 9, 12, 30, 4, 6, 1}};
        for (int p = 0; p < 6; p++) for (int what = 0; what < 8; what++) due(facts[p][what], x.personOf(p, what));
        x.climb(4); x.climb(2); due(0, x.personOf(4, 8)); due(1, x.personOf(2, 8)); due(NONE, x.personOf(0, 8));
        due(BAD, x.personOf(6, 0)); due(BAD, x.personOf(-1, 0)); due(BAD, x.personOf(0, 9)); due(BAD, x.personOf(0, -1)); due(4, x.status(12));
        x.give(3, 0, 11); due(8, x.personOf(3, 5)); x.give(5, 1, 13); due(6, x.personOf(5, 6)); x.give(3, 1, 5); due(0, x.personOf(3, 6));
        due(6, x.person(3, 8, 1, 0, 0)); due(5, x.personOf(6, 7)); due(7, x.person(3, 9, 1, 0, 0)); due(6, x.personOf(7, 7)); due(0, x.personOf(7, 6));

        about(16);
        four();
        int[] at = {4, 2, 0, 5, NONE, NONE, NONE, NONE};
        for (int c = 0; c < 8; c++) due(at[c], x.at(c));
        due(BAD, x.at(8)); due(BAD, x.at(-1)); due(2, x.status(12));

        about(17);
        four();
        int[][] of = {{36, 48, 0}, {16, 49, 2}, {4, 46, 4}, {0, 6, 6}};
        for (int c = 0; c < 4; c++) for (int what = 0; what < 3; what++) due(of[c][what], x.of(x.at(c), what));
        for (int c = 0; c < 4; c++) { due(0, x.of(x.at(c), 3)); due(0, x.of(x.at(c), 4)); }
        x.give(0, 1, 3); due(-1, x.of(0, 1)); due(1, x.of(0, 3)); x.give(0, 1, 4); due(0, x.of(0, 3));
        x.give(0, 2, 3); due(0, x.of(0, 4)); x.give(0, 2, 2); due(1, x.of(0, 4)); x.give(2, 2, 1); due(0, x.of(2, 4)); x.give(2, 2, 0); due(1, x.of(2, 4));
        due(STUCK, x.of(1, 0)); due(BAD, x.of(1, 5)); due(BAD, x.of(0, -1)); due(BAD, x.of(6, 0)); due(BAD, x.of(-1, 0));

        about(18);
        due(1, x.stands()); four(); due(1, x.stands()); x.give(0, 1, 3); due(0, x.stands()); x.give(0, 1, 4); due(1, x.stands());
        x.give(0, 2, 2); due(0, x.stands()); x.tell(0, 2); due(1, x.stands()); due(4, x.status(1));

        about(19);
        due(NONE, x.weak()); four(); due(NONE, x.weak()); x.give(5, 2, 3); due(5, x.weak()); x.give(0, 1, 3); due(0, x.weak());
        x.give(2, 2, 0); due(2, x.weak()); x.give(4, 1, 0); due(4, x.weak()); due(0, x.status(12));

        about(20);
        due(0, x.height()); four(); due(7, x.height()); x.comesOut(); due(5, x.height());

        about(21);
        due(STUCK, x.least(0)); due(STUCK, x.least(1)); due(BAD, x.least(2)); due(BAD, x.least(-1));
        four(); due(6, x.least(0)); due(5, x.least(1)); x.give(0, 1, 10); due(6, x.least(0)); due(0, x.least(1));
        x.give(2, 1, 0); due(-11, x.least(0)); due(2, x.least(1));
    }

    private static void ordersOfPeople() {
        about(22);
        due(1, x.orders(0, NONE)); due(STUCK, x.orders(0, 0)); due(BAD, x.orders(1, NONE)); six();
        due(1, x.orders(48, NONE)); due(4, x.orders(48, 0)); due(5, x.orders(48, 1)); due(STUCK, x.orders(48, 2));
        due(2, x.orders(17, NONE)); due(0, x.orders(17, 0)); due(4, x.orders(17, 1)); due(STUCK, x.orders(17, Integer.MAX_VALUE));
        due(1, x.orders(32, NONE)); due(5, x.orders(32, 0)); due(BAD, x.orders(64, NONE)); due(BAD, x.orders(-1, NONE)); due(BAD, x.orders(1, -2));
        due(BAD, x.orders(Integer.MIN_VALUE, 0)); x.give(4, 1, 0); x.give(5, 0, 40); due(0, x.orders(48, NONE));
        due(STUCK, x.orders(48, 0)); due(STUCK, x.orders(48, 1)); x.tell(1, 1); due(2, x.orders(3, NONE)); due(0, x.status(1));
        about(22);
        for (int k = 0; k < 8; k++) x.person(0, 0, 1, 7, 40);
        due(40320, x.orders(255, NONE)); due(7, x.orders(255, 7)); x.give(3, 1, 6); due(35280, x.orders(255, NONE)); due(0, x.orders(255, 0));

        about(23);
        due(0, x.highest(0)); due(0, x.highest(1)); due(BAD, x.highest(2)); due(BAD, x.highest(-1));
        x.person(5, 0, 1, 0, 10); x.person(4, 9, 40, 99, 40);
        due(3, x.highest(0)); due(3, x.highest(1)); x.tell(1, 1); due(2, x.highest(0)); due(2, x.highest(1));
        about(23);
        x.person(0, 0, 5, 0, 40); x.person(0, 0, 5, 0, 40); x.person(5, 0, 5, 0, 40); due(1, x.highest(0)); due(2, x.highest(1));
        x.person(1, 0, 5, 0, 40); due(8, x.highest(0)); due(3, x.highest(1)); x.give(1, 1, 5); due(10, x.highest(0)); due(5, x.highest(1));
        x.give(3, 2, 0); due(3, x.highest(0)); due(4, x.highest(1)); x.tell(0, 1); due(10, x.highest(0)); due(0, x.status(1));

        about(24);
        six();
        due(7, x.fond(0, 1)); due(7, x.fond(1, 0)); due(4, x.fond(0, 5)); due(9, x.fond(0, 4)); due(BAD, x.fond(0, 0)); due(BAD, x.fond(0, 6));
        due(BAD, x.fond(-1, 0)); due(BAD, x.fond(6, 0)); x.person(0, 1, 1, 1, 1); due(10, x.fond(0, 6));

        about(25);
        due(0, x.glad(0)); due(BAD, x.glad(1)); six(); due(0, x.glad(1)); due(9, x.glad(17)); due(5, x.glad(48)); due(BAD, x.glad(64)); due(BAD, x.glad(-1));
        x.give(4, 1, 0); x.give(5, 1, 0); x.give(5, 0, 40); due(NONE, x.glad(48)); due(3, x.status(12)); due(0, x.status(15));
        about(25);
        firmThree(); x.tell(1, 1); due(18, x.glad(7)); due(8, x.glad(5)); x.give(1, 1, 0); due(17, x.glad(7));

        about(26);
        six(); cells(0, 2, 15, 0); cells(1, 3, 12, 0, 77); cells(2, 2, 1, 0); cells(3, 0, 5); cells(4, 4, 0);
        due(1, x.backs(0, 17, 0)); due(1, x.backs(0, 17, 1)); due(16, x.backs(0, 17, 2));
        due(1, x.backs(1, 17, 0)); due(16, x.backs(1, 17, 1)); due(1, x.backs(1, 17, 2));
        due(0, x.backs(2, 17, 0)); due(0, x.backs(2, 17, 1)); due(0, x.backs(2, 17, 2));
        due(1, x.backs(0, 0, 0)); due(0, x.backs(0, 0, 1)); due(0, x.backs(0, 0, 2)); due(1, x.backs(4, 32, 0)); due(32, x.backs(4, 32, 2));
        due(BAD, x.backs(3, 17, 0)); due(BAD, x.backs(0, 19, 0)); due(BAD, x.backs(0, 64, 0)); due(BAD, x.backs(0, -1, 0));
        due(BAD, x.backs(0, 17, 3)); due(BAD, x.backs(0, 17, -1)); due(BAD, x.backs(8, 17, 0)); due(BAD, x.backs(-1, 17, 0));
        due(NOTHING, x.backs(6, 63, 0)); x.show(6, 0); due(OTHER, x.backs(6, 63, 0)); due(BAD, x.backs(6, 64, 0)); due(BAD, x.backs(7, 1, 3));
        cells(0, 3, (1L << 32) + 15, 0); due(0, x.backs(0, 17, 0));
        // an order that doesn't stand counts, too: the child under the widow
        cells(0, 2, 15, 0); due(1, x.backs(0, 48, 0)); due(32, x.backs(0, 48, 1)); due(16, x.backs(0, 48, 2));
        about(26);
        firmThree(); cells(0, 0, 2, 1, 0); due(6, x.backs(0, 7, 0)); due(7, x.backs(0, 7, 1)); due(7, x.backs(0, 7, 2)); due(3, x.status(0));
    }

    private static void whatWouldBe() {
        about(27);
        due(NONE, x.under()); four(); due(1, x.under()); x.give(1, 1, 28); due(1, x.under()); x.give(1, 1, 27); due(3, x.under());
        x.tell(1, 4); due(NONE, x.under()); due(0, x.status(15));
        about(27);
        firmThree(); due(0, x.under()); x.give(1, 1, 98); x.give(0, 1, 50); due(2, x.under()); x.give(2, 1, 50); due(1, x.under());
        x.climb(0); x.climb(1); x.climb(2); due(NONE, x.under());
        about(27);
        x.person(0, 0, 1, 3, 40); x.person(0, 0, 1, 50, 40); x.person(0, 0, 1, 99, 40); x.climb(0); due(1, x.under());

        about(28);
        due(NONE, x.change()); four(); due(2, x.change());
        x.comesOut(); x.comesOut(); due(5, x.change()); x.comesOut(); due(NONE, x.change());
        about(28);
        x.person(0, 0, 10, 10, 40); x.person(0, 0, 1, 40, 40); x.person(0, 0, 1, 5, 40); x.tell(0, 0);
        due(4, read("climb 0;climb 1;climb 2;day 1")); due(1, x.change()); due(0, x.at(0));
        due(4, read("down;climb 2;climb 0;climb 1")); due(12, x.change());

        about(29);
        due(0, x.out()); four(); due(53, x.out()); x.give(0, 1, 3); due(33, x.out()); x.give(0, 1, 50); x.give(0, 2, 2); due(21, x.out());
        due(4, x.status(1));

        about(30);
        due(9, x.gale()); four(); due(9, x.gale()); x.give(0, 2, 5); due(5, x.gale()); x.give(0, 2, 0); due(0, x.gale());
        x.give(0, 1, 3); due(NONE, x.gale()); due(3, x.status(2));

        about(31);
        due(1000000, x.chance()); four(); due(1000000, x.chance()); x.give(0, 2, 5); due(600000, x.chance()); x.give(0, 2, 0); due(100000, x.chance());
        x.give(0, 1, 3); due(0, x.chance());

        about(32);
        due(NONE, x.fittest()); four(); due(NONE, x.fittest()); x.comesOut(); x.comesOut(); x.comesOut(); x.comesOut();
        due(0, x.fittest()); x.climb(4); x.climb(2); x.climb(0); due(3, x.fittest()); x.tell(1, 3); due(3, x.fittest());
        x.give(3, 2, 7); due(5, x.fittest()); x.give(5, 2, 12); due(1, x.fittest()); due(0, x.status(15));
        about(32);
        for (int k = 0; k < 3; k++) x.person(3, 9, 1, 99, 0);
        x.climb(2); due(0, x.fittest()); x.tell(0, 0); x.climb(1); x.tell(0, 9); due(0, x.fittest()); x.give(2, 1, 1); due(NONE, x.fittest());

        about(33);
        due(0, x.ahead(9, 0)); due(0, x.ahead(0, 1)); due(NONE, x.ahead(60, 3));
        x.person(5, 0, 1, 0, 0); x.person(4, 9, 40, 99, 40);
        due(1, x.ahead(1, 0)); due(1, x.ahead(1, 1)); due(0, x.ahead(1, 2)); due(0, x.ahead(1, 3));
        due(0, x.ahead(2, 0)); due(0, x.ahead(2, 1)); due(1, x.ahead(2, 2)); due(NONE, x.ahead(2, 3)); due(30, x.ahead(60, 2));
        due(BAD, x.ahead(-1, 0)); due(BAD, x.ahead(61, 0)); due(BAD, x.ahead(0, 4)); due(BAD, x.ahead(0, -1));
        due(0, x.status(1)); due(0, x.status(4)); due(0, x.status(5));
        about(33);
        firmThree(); x.tell(1, 2);
        int[] top = {NONE, 0, 1, 2, 0, 1, 2};
        for (int n = 0; n < top.length; n++) { due(top[n], x.ahead(n, 3)); due(Math.min(n, 2), x.ahead(n, 1)); due(2 * Math.min(n, 2), x.ahead(n, 0)); }
        x.tell(1, 1); due(0, x.ahead(7, 3)); x.tell(1, 8); due(2, x.ahead(3, 3)); due(3, x.ahead(5, 1)); due(1, x.ahead(5, 3));

        about(34);
        due(NONE, x.next()); firmThree(); due(0, x.next()); x.climb(1); due(2, x.next()); x.climb(2); due(0, x.next()); x.climb(0); due(1, x.next());
        x.tell(1, 3); x.comesOut(); x.comesOut(); x.tell(1, 1); due(0, x.next()); x.tell(1, 2); due(1, x.next()); x.climb(1); due(2, x.next());
        about(34);
        firmThree(); x.climb(2); x.tell(1, 1); due(0, x.next()); due(2, x.at(0)); due(0, x.status(15));
    }

    private static void questions() {
        about(35);
        due(0, x.who(0)); due(0, x.who(1)); six(); due(63, x.who(1)); x.climb(4); x.climb(2); x.climb(0); due(21, x.who(0)); due(42, x.who(1));
        x.give(1, 2, 3); due(40, x.who(1)); x.tell(1, 3); due(0, x.who(1)); due(0, x.who(2)); due(0, x.who(3));
        x.give(4, 1, 0); x.give(2, 1, 0); due(20, x.who(2)); due(0, x.who(3)); x.give(0, 2, 0); x.give(2, 2, 0); due(5, x.who(3));
        due(BAD, x.who(4)); due(BAD, x.who(-1));

        about(36);
        due(STUCK, x.room(1)); due(BAD, x.room(0)); due(BAD, x.room(41)); due(BAD, x.room(-1)); four();
        due(6, x.room(1)); due(1, x.room(4)); due(1, x.room(6)); due(0, x.room(7)); due(0, x.room(40)); x.give(0, 1, 3); due(0, x.room(1));
        about(36);
        x.person(4, 9, 40, 99, 40); x.climb(0); due(99, x.room(1)); due(99, x.room(2)); due(72, x.room(3)); due(5, x.room(40));

        about(37);
        four(); due(16, x.needs(4)); due(11, x.needs(2)); due(4, x.needs(0)); due(0, x.needs(5)); due(STUCK, x.needs(1)); due(BAD, x.needs(6)); due(BAD, x.needs(-1));
        due(40, x.personOf(4, 3));
        about(37);
        x.person(5, 0, 1, 99, 40); x.person(3, 9, 40, 99, 40); x.person(0, 0, 40, 99, 40); x.person(1, 0, 1, 0, 40); x.tell(0, 0);
        x.climb(0); x.climb(1); due(48, x.needs(0)); due(0, x.needs(1)); due(0, x.climb(2)); due(3, read("climb 0;climb 1;climb 2")); due(NONE, x.needs(0)); due(49, x.needs(1));
        due(1, read("climb 3")); due(50, x.needs(1)); due(1, x.needs(2)); due(0, x.status(12));

        about(38);
        four(); due(0, x.nerves(4)); due(1, x.nerves(2)); due(3, x.nerves(0)); due(4, x.nerves(5)); due(STUCK, x.nerves(3)); due(BAD, x.nerves(6)); due(BAD, x.nerves(-1));
        about(38);
        for (int k = 0; k < 5; k++) x.person(3, 9, 1, 99, 40);
        due(5, read("climb 0;climb 1;climb 2;climb 3;wind 9")); due(40, x.nerves(3)); due(1, read("climb 4")); due(NONE, x.nerves(4)); due(0, x.status(12));

        about(39);
        due(BAD, x.foot(0)); six(); due(1, x.foot(5)); x.climb(4); x.climb(2); x.climb(0); x.climb(5);
        due(1, x.foot(4)); due(1, x.foot(2)); due(1, x.foot(0)); due(0, x.foot(5)); due(0, x.foot(1)); due(0, x.foot(3)); due(BAD, x.foot(6)); due(BAD, x.foot(-1));
        x.give(1, 1, 54); due(0, x.foot(1)); x.give(1, 1, 55); due(1, x.foot(1)); x.tell(1, 4); due(1, x.foot(1)); x.give(0, 1, 3); due(0, x.foot(4)); due(0, x.foot(0));
        x.give(0, 1, 39); due(1, x.foot(0)); x.give(0, 1, 38); due(0, x.foot(0)); due(4, x.at(0));

        about(40);
        due(0, x.mass()); four(); due(51, x.mass()); x.comesOut(); due(36, x.mass());

        about(41);
        due(0, x.gladness()); four(); due(17, x.gladness()); x.comesOut(); due(10, x.gladness()); x.comesOut(); x.comesOut(); due(0, x.gladness());

        about(42);
        due(0, x.ends(0, 0)); due(0, x.ends(0, 1)); due(BAD, x.ends(1, 0)); six(); due(16, x.ends(48, 0)); due(32, x.ends(48, 1)); due(17, x.ends(17, 0)); due(17, x.ends(17, 1));
        due(32, x.ends(32, 0)); due(32, x.ends(32, 1)); due(BAD, x.ends(64, 0)); due(BAD, x.ends(-1, 0)); due(BAD, x.ends(1, 2)); due(BAD, x.ends(1, -1));
        about(42);
        firmThree(); due(7, x.ends(7, 0)); x.give(1, 1, 1); due(5, x.ends(7, 0)); due(7, x.ends(7, 1)); x.give(2, 1, 0); due(1, x.ends(7, 0)); due(4, x.ends(7, 1)); x.give(1, 1, 0); due(0, x.ends(7, 0)); due(0, x.ends(7, 1));

        about(43);
        due(NONE, x.lighter()); four(); due(4, x.lighter()); x.give(0, 2, 0); due(0, x.lighter()); x.give(0, 2, 9); x.give(0, 1, 3); due(0, x.lighter());
        x.give(4, 1, 0); x.give(5, 1, 0); due(NONE, x.lighter()); due(0, x.status(12));
        about(43);
        x.person(5, 0, 40, 0, 0); x.person(5, 0, 40, 0, 0); x.person(5, 0, 40, 0, 0); due(3, read("climb 0;climb 1;climb 2")); due(NONE, x.lighter());
        due(2, read("down;climb 2")); due(2, x.lighter());
        about(43);
        // without anyone it stands by no wind at all but 0
        for (int k = 0; k < 3; k++) x.person(3, 9, 1, 99, 0);
        due(3, read("climb 2;climb 1;climb 0")); due(2, x.lighter());

        about(44);
        due(BAD, x.shifted(0, 0)); four(); due(1, x.shifted(0, 1)); due(0, x.shifted(0, 3)); due(1, x.shifted(3, 3)); due(1, x.shifted(2, 0)); due(0, x.shifted(3, 0));
        due(BAD, x.shifted(4, 0)); due(BAD, x.shifted(0, 4)); due(BAD, x.shifted(-1, 0)); due(BAD, x.shifted(0, -1)); due(4, x.at(0));
        x.give(0, 2, 1); due(0, x.stands()); due(0, x.shifted(2, 2)); due(1, x.shifted(2, 1)); due(0, x.shifted(3, 1));

        about(45);
        due(BAD, x.between(0)); four(); due(7, x.between(0)); due(6, x.between(1)); due(4, x.between(2)); due(BAD, x.between(3)); due(BAD, x.between(4));
        due(BAD, x.between(-1)); due(BAD, x.between(Integer.MAX_VALUE));

        about(46);
        due(NONE, x.top()); four(); due(5, x.top()); x.comesOut(); due(5, x.top()); due(0, x.status(15));

        about(47);
        due(0, x.ofKind(0)); six(); for (int k = 0; k < 6; k++) due(1, x.ofKind(k)); x.person(0, 0, 1, 0, 0); due(2, x.ofKind(0)); due(BAD, x.ofKind(6)); due(BAD, x.ofKind(-1));
    }

    private static void climbsAndTruth() {
        about(48);
        six(); cells(0, 2, 4, 2, 0, 5, 1); due(NONE, x.judge(0, 5)); due(NONE, x.judge(0, 0)); due(BAD, x.judge(0, 6)); due(BAD, x.judge(0, -1)); due(BAD, x.judge(0, 41));
        due(BAD, x.judge(8, 0)); due(BAD, x.judge(-1, 0)); due(NOTHING, x.judge(1, 9)); x.show(1, 0); due(OTHER, x.judge(1, 9)); due(BAD, x.judge(1, 41));
        x.set(0, 3, 4); due(3, x.judge(0, 5)); due(NONE, x.judge(0, 3)); x.set(0, 3, 6); due(3, x.judge(0, 5)); x.set(0, 3, -1); due(3, x.judge(0, 5)); x.set(0, 3, 5);
        x.tell(1, 2); due(2, x.judge(0, 5)); x.tell(1, 6); x.climb(0); due(2, x.judge(0, 5)); x.climb(3); due(2, x.judge(0, 5)); x.set(0, 2, 1); due(4, x.judge(0, 5)); x.tell(1, 5); due(3, x.judge(0, 4));
        cells(2, 3, 1L << 32, 0); due(0, x.judge(2, 1)); cells(2, 4, 1, 1); due(1, x.judge(2, 2)); due(2, x.status(1));
        x.row(3, 0, 40); due(0, x.judge(3, 40)); due(BAD, x.judge(3, 41)); due(STUCK, x.breaks(3, 40)); due(NONE, x.breaks(3, 0));

        about(49);
        six(); cells(0, 2, 4, 2, 0, 5, 1); due(4, x.breaks(0, 5)); due(NONE, x.breaks(0, 4)); due(NONE, x.breaks(0, 0)); x.give(2, 2, 0); due(1, x.breaks(0, 5)); x.tell(0, 0); due(4, x.breaks(0, 5));
        x.set(0, 4, 4); due(STUCK, x.breaks(0, 5)); due(NONE, x.breaks(0, 4)); due(BAD, x.breaks(0, 6)); due(BAD, x.breaks(0, -1)); due(BAD, x.breaks(0, 41)); due(BAD, x.breaks(8, 0)); due(BAD, x.breaks(-1, 0));
        due(NOTHING, x.breaks(1, 9)); x.show(1, 0); due(OTHER, x.breaks(1, 9)); due(BAD, x.breaks(1, 41)); due(0, x.status(1)); due(1, x.status(15));

        about(50);
        six(); due(1, x.climb(4)); due(STUCK, x.climb(4)); due(BAD, x.climb(6)); due(BAD, x.climb(-1)); due(1, x.climb(5)); due(2, x.status(1)); due(0, x.climb(2));
        due(0, x.status(1)); due(1, x.status(5)); due(0, x.status(4)); x.tell(1, 1); due(1, x.climb(0)); due(STUCK, x.climb(1)); due(BAD, x.climb(9));
        about(50);
        x.person(0, 0, 1, 99, 0); x.person(0, 0, 1, 99, 0); x.climb(0); due(0, x.climb(1)); due(1, x.status(5)); x.tell(0, 1); x.climb(0); due(1, x.climb(1));

        about(51);
        due(STUCK, x.comesOut()); four(); due(4, x.comesOut()); due(2, x.at(0)); due(3, x.status(1)); due(2, x.comesOut()); due(0, x.comesOut()); due(5, x.comesOut()); due(STUCK, x.comesOut()); due(0, x.status(5));
        about(51);
        for (int k = 0; k < 3; k++) x.person(0, 0, 1, 99, 0);
        x.tell(0, 0); x.climb(0); x.climb(1); x.climb(2); x.tell(0, 9); due(0, x.comesOut()); due(0, x.status(1)); due(1, x.status(5)); due(0, x.status(4));

        about(52);
        due(STUCK, x.days(1)); due(BAD, x.days(0)); due(BAD, x.days(61)); firmThree(); x.tell(1, 2);
        due(2, x.days(1)); due(0, x.top()); due(4, x.days(1)); due(1, x.top()); due(4, x.days(1)); due(1, x.at(0)); due(2, x.at(1)); due(4, x.days(60)); due(63, x.status(4)); due(0, x.status(5)); due(2, x.top());
        x.give(2, 2, 0); x.give(1, 2, 0); x.give(0, 2, 0); due(0, x.days(1)); due(1, x.status(5)); due(2, x.days(1)); due(0, x.at(0)); x.tell(2, 998); x.days(1); due(999, x.status(4)); x.days(1); due(999, x.status(4));
        about(52);
        x.person(5, 0, 1, 0, 0); due(1, x.days(1)); due(1, x.days(5)); due(6, x.status(4)); due(0, x.status(5));

        about(53);
        due(STUCK, x.drawn(1)); due(BAD, x.drawn(0)); due(BAD, x.drawn(61)); due(1, x.status(7)); x.person(5, 0, 1, 0, 0);
        due(0, x.drawn(1)); due(8, x.status(2)); due(1103527590, x.status(7)); due(1, x.status(4)); due(1, x.status(1));
        about(53);
        // day 1: wind 8, both shake in it and it falls; then number 0 climbs
        for (int k = 0; k < 3; k++) x.person(0, 0, 1, 99, 0);
        x.tell(0, 0); x.climb(1); x.climb(2); due(1, x.drawn(1)); due(0, x.at(0)); due(1, x.status(1)); due(1, x.status(5)); due(1, x.status(4));
        due(1, x.status(5)); x.seed(1); x.tell(0, 0); x.climb(1); due(1, x.drawn(1)); due(2, x.status(5));
        x.drawn(60); due(62, x.status(4));

        about(54);
        due(1, x.seed(7)); due(7, x.seed(-5)); due(-5, x.seed(Integer.MIN_VALUE)); due(Integer.MIN_VALUE, x.status(7)); x.seed(2); x.person(0, 0, 1, 0, 0); x.drawn(1);
        due(2 * 1103515245 + 12345, x.status(7)); due((2 * 1103515245 + 12345 >>> 16) % 10, x.status(2));
        x.seed(3); x.drawn(1); due((3 * 1103515245 + 12345 >>> 16) % 10, x.status(2));
    }

    private static void images() {
        about(55);
        due(1, x.image()); four(); due(1, x.image()); x.comesOut(); due(1, x.back()); due(4, x.at(0)); due(0, x.status(12));
        x.image(); x.tell(0, 9); x.image(); x.tell(0, 1); x.back(); due(9, x.status(2));

        about(56);
        due(STUCK, x.back()); due(1, x.status(15)); four(); x.seed(11); x.tell(2, 5); x.image();
        x.person(0, 0, 1, 0, 0); x.show(0, 6); x.show(1, 5); x.row(2, 3, 4); x.set(2, 1, 9); x.feed('d'); x.give(4, 0, 1); x.days(9); x.drawn(7); x.tell(1, 8); x.tell(0, 7); due(BAD, x.at(9));
        due(1, x.back()); due(6, x.status(0)); due(4, x.status(1)); due(3, x.status(2)); due(6, x.status(3)); due(5, x.status(4)); due(0, x.status(5)); due(11, x.status(7));
        due(1, x.status(6)); due(NONE, x.holds(0)); due(15, x.holds(1)); due(3, x.holds(2)); due(9, x.element(2, 1)); due(2, x.status(8)); due(1, x.status(12)); due(1, x.status(15));
        due(15, x.personOf(4, 2)); due(15, x.personOf(4, 5)); due(4, x.at(0)); due(5, x.at(3)); due(51, x.mass());
        // what was kept is kept still
        x.give(4, 0, 1); x.comesOut(); due(1, x.back()); due(51, x.mass()); due(4, x.status(1));
        about(56);
        firmThree(); x.image(); x.wipe(); x.person(0, 0, 1, 1, 1); x.climb(3); x.back(); due(0, x.status(1)); due(3, x.person(5, 9, 40, 2, 2)); due(20, x.personOf(3, 5));

        about(57);
        four(); x.tell(2, 44); x.feed('x'); x.feed('y'); x.seed(-9); x.row(0, 0, 0); x.show(7, 3); x.show(6, 3); x.show(6, NONE);
        int[] state = {6, 4, 3, 6, 44, 0, 2, -9, 2};
        for (int what = 0; what < state.length; what++) due(state[what], x.status(what));
        x.at(9); x.at(9); x.says(0, 0); x.set(3, 0, 0); x.set(3, 0, 0); x.set(3, 0, 0); x.of(1, 0); x.person(0, 0, 1, 1, 1); x.person(0, 0, 1, 1, 1); x.person(0, 0, 1, 1, 1);
        int[] refusals = {2, 1, 3, 1, 1};
        for (int k = 0; k < 5; k++) due(refusals[k], x.status(12 + k));
        for (int what : new int[] {-1, 9, 10, 11, 17, Integer.MIN_VALUE, Integer.MAX_VALUE}) due(NONE, x.status(what));
        x.tower(); due(3, x.status(12)); due(0, x.status(6)); due(-1, TowerOfTurns.NONE);
    }

    public static void main(String[] args) {
        shelves();
        peopleAndTape();
        texts();
        bearing();
        ordersOfPeople();
        whatWouldBe();
        questions();
        climbsAndTruth();
        images();
        System.out.println(wrong == 0 ? "all promises hold" : wrong + " answers are not as due");
        if (wrong != 0) {
            System.exit(1);
        }
    }
}
