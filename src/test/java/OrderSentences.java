/** Promises 22 to 26 and 42: orders told people stand in, how high it may be, who is glad, who stood where. */
final class OrderSentences {
    private OrderSentences() {
    }

    static void tell(Scenes s) {
        orders(s);
        highest(s);
        glad(s);
        backs(s);
        ends(s);
    }

    private static void orders(Scenes s) {
        s.sentence(22, "ORDERS of told PEOPLE (bits), all of them, the FOOT first: in how many THE TOWER would STAND;", """
            orders(0, NONE)=1 new six orders(0, NONE)=1 orders(32, NONE)=1 orders(48, NONE)=1 orders(17, NONE)=2     # the child can't bear the widow
            give(4, 2, 1) orders(17, NONE)=2 give(4, 2, 0) orders(17, NONE)=1 orders(17, 0)=4 tell(0, 1) orders(17, NONE)=2      # who shakes in the WIND of now
            give(4, 1, 0) orders(48, NONE)=1 give(5, 0, 9) give(4, 1, 0) orders(48, NONE)=1 give(5, 0, 10) orders(48, NONE)=0    # 4 are borne, 5 aren't
            new eight orders(255, NONE)=40320 orders(128, NONE)=1 orders(127, NONE)=5040 give(3, 1, 6) orders(255, NONE)=35280 tell(1, 1) orders(255, NONE)=35280
            new eight tell(1, 2) climb(3) climb(4) orders(3, NONE)=2 orders(24, NONE)=2           # whoever is in it""");
        s.sentence(22, "the i-th of the first of them by rows; NONE: in none.", """
            six orders(48, 0)=4 orders(48, 1)=5 orders(17, 0)=0 orders(17, 1)=4 orders(32, 0)=5
            new firm3 orders(7, 0)=0 orders(7, 1)=1 orders(7, 2)=2 orders(5, 1)=2 give(0, 1, 1) orders(7, 0)=1 orders(7, 1)=0 orders(7, 2)=2
            give(0, 1, 0) orders(7, 0)=1 orders(7, 1)=2 orders(7, 2)=0 give(1, 1, 1) orders(7, 0)=2 orders(7, 1)=1 orders(7, 2)=0
            new eight orders(255, 0)=0 orders(255, 7)=7 give(0, 1, 0) orders(255, 0)=1 orders(255, 6)=7 orders(255, 7)=0""");
        s.sentence(22, "ORDERS of told PEOPLE: how many (i NONE), the i-th of the first.", "firm3 orders(7, NONE)=6 orders(7, 0)=0 orders(7, 2)=2 orders(6, NONE)=2 orders(6, 0)=1 orders(6, 1)=2");
        s.sentence(22, "BAD: also PEOPLE who aren't there, i below NONE; STUCK: not so many PEOPLE, none.", """
            orders(1, NONE)=BAD orders(1, 0)=BAD orders(-1, NONE)=BAD new six orders(63, 0)=2 orders(63, 3)=4 orders(63, 5)=5 orders(64, NONE)=BAD orders(64, 0)=BAD orders(-1, NONE)=BAD
            orders(MIN, NONE)=BAD orders(MAX, NONE)=BAD orders(1, -2)=BAD orders(1, MIN)=BAD orders(64, -2)=BAD orders(256, 0)=BAD
            new eight orders(255, NONE)=40320 orders(256, NONE)=BAD orders(255, 7)=7 orders(255, 8)=STUCK orders(255, MAX)=STUCK
            new six orders(48, 2)=STUCK orders(32, 1)=STUCK orders(32, 0)=5 orders(0, 0)=STUCK give(4, 1, 0) give(5, 0, 40) orders(48, 0)=STUCK orders(48, 1)=STUCK orders(48, NONE)=0""");
    }

    private static void highest(Scenes s) {
        s.sentence(23, "HIGHEST: of all sets of PEOPLE (MOST at most) that could STAND in some order the one of greatest HEIGHT,", """
            person(0, 0, 40, 0, 40) person(0, 0, 1, 99, 40) highest(0)=3 highest(1)=4 orders(3, 0)=1           # in an order that isn't the first
            give(1, 1, 39) highest(0)=1 highest(1)=2 give(1, 1, 40) highest(1)=4                               # no order of both stands
            new firm3 person(1, 0, 1, 99, 40) tell(1, 1) highest(0)=8 highest(1)=3 tell(1, 2) highest(0)=9 highest(1)=5 tell(1, 3) highest(0)=11 tell(1, 4) highest(0)=15 highest(1)=9
            new eight tell(1, 1) highest(0)=1 highest(1)=2 tell(1, 7) highest(0)=127 highest(1)=14 tell(1, 8) highest(0)=255 highest(1)=16
            new full comesOut() highest(0)=255 highest(1)=16                                                   # whoever is in it
            new person(3, 9, 1, 99, 40) person(3, 9, 1, 99, 13) tell(0, 9) highest(1)=12 give(1, 2, 12) highest(0)=3 highest(1)=12 give(0, 2, 12) highest(0)=1 highest(1)=6""");
        s.sentence(23, "of several the least as bits: bits; HEIGHT.", """
            person(0, 0, 5, 0, 40) person(0, 0, 5, 0, 40) person(0, 0, 5, 0, 40) highest(0)=1 highest(1)=2
            give(2, 1, 5) highest(0)=5 highest(1)=4 give(1, 1, 5) highest(0)=3 highest(1)=4""");
        s.sentence(23, "HIGHEST: bits (what 0), HEIGHT (1).", "highest(0)=0 highest(1)=0 new person(5, 0, 1, 0, 0) highest(0)=1 highest(1)=1");
        s.sentence(23, "BAD.", "highest(-1)=BAD highest(2)=BAD highest(MIN)=BAD highest(MAX)=BAD highest(0)=0 highest(1)=0");
    }

    private static void glad(Scenes s) {
        s.sentence(24, "FOND of two: 10 less how far their a are apart.", """
            person(0, 0, 1, 0, 0) person(5, 9, 1, 0, 0) person(1, 9, 1, 0, 0) fond(0, 1)=1 fond(1, 0)=1 fond(1, 2)=10 fond(2, 0)=1
            new six fond(0, 1)=7 fond(1, 0)=7 fond(0, 5)=4 fond(5, 0)=4""");
        s.sentence(24, "FOND. BAD: also the same.", """
            fond(0, 1)=BAD new six fond(0, 0)=BAD fond(5, 5)=BAD fond(0, 6)=BAD fond(6, 0)=BAD fond(-1, 0)=BAD fond(0, -1)=BAD fond(MIN, MAX)=BAD fond(MAX, 0)=BAD
            fond(6, 6)=BAD fond(0, 5)=4 new eight fond(7, 6)=10 fond(7, 8)=BAD fond(7, 7)=BAD""");
        s.sentence(25, "GLAD: the greatest FOND of all who are one above the other together, of all ORDERS of told PEOPLE in which it STANDS", """
            firm3 glad(7)=18 glad(5)=8 glad(3)=9 give(1, 1, 0) glad(7)=17 give(1, 1, 1) glad(7)=18 give(0, 1, 0) glad(7)=18 give(2, 1, 0) glad(7)=NONE
            new six glad(17)=9 glad(48)=5 new eight glad(255)=70 tell(1, 1) glad(255)=70
            new strings give(0, 2, 13) give(1, 2, 12) tell(0, 9) glad(3)=10 give(0, 2, 12) glad(3)=NONE""");
        s.sentence(25, "(0: one, or nobody); NONE: in none.", """
            glad(0)=0 new six glad(0)=0 glad(1)=0 glad(32)=0 give(5, 0, 40) give(4, 1, 0) give(5, 1, 0) glad(48)=NONE glad(32)=0
            new person(0, 0, 1, 0, 0) person(0, 9, 1, 1, 0) tell(0, 0) glad(3)=1""");
        s.sentence(25, "GLAD of told PEOPLE; NONE. BAD: also PEOPLE who aren't there. (NONE isn't refused.)", """
            glad(1)=BAD glad(-1)=BAD new six glad(48)=5 glad(64)=BAD glad(65)=BAD glad(-1)=BAD glad(MIN)=BAD glad(MAX)=BAD glad(256)=BAD status(12)=6 status(15)=0
            new eight glad(255)=70 glad(256)=BAD""");
    }

    private static void backs(Scenes s) {
        s.scene("loads", """
            six row(0, 2, 2) set(0, 0, 15) row(1, 3, 3) set(1, 0, 12) set(1, 2, 77) row(2, 2, 2) set(2, 0, 1) row(3, 0, 1) set(3, 0, 5) row(4, 4, 1) row(5, 0, 0) show(6, 0)""");
        s.sentence(26, "BACKS: by a told ROW of LOADS, from the FOOT on, of told PEOPLE: in how many orders (STANDING or not) it is so; PEOPLE (bits) who may be at the FOOT, on top.", """
            loads backs(0, 17, 0)=1 backs(0, 17, 1)=1 backs(0, 17, 2)=16 backs(1, 17, 0)=1 backs(1, 17, 1)=16 backs(1, 17, 2)=1
            backs(2, 17, 0)=0 backs(2, 17, 1)=0 backs(2, 17, 2)=0 backs(5, 0, 0)=1 backs(5, 0, 1)=0 backs(5, 0, 2)=0 backs(4, 32, 0)=1 backs(4, 32, 1)=32 backs(4, 32, 2)=32
            backs(0, 48, 0)=1 backs(0, 48, 1)=32 backs(0, 48, 2)=16                  # the child under the widow: it doesn't stand
            set(0, 1, 1) backs(0, 17, 0)=0 set(0, 1, 0) tell(0, 9) give(4, 2, 0) backs(0, 17, 0)=1 tell(1, 1) backs(0, 17, 0)=1
            new eight row(0, 0, 8) set(0, 0, 7) set(0, 1, 6) set(0, 2, 5) set(0, 3, 4) set(0, 4, 3) set(0, 5, 2) set(0, 6, 1) backs(0, 255, 0)=40320 backs(0, 255, 1)=255 backs(0, 255, 2)=255
            give(2, 0, 2) backs(0, 255, 0)=5040 backs(0, 255, 1)=4 backs(0, 255, 2)=251
            set(0, 0, 8) backs(0, 255, 0)=5040 backs(0, 255, 1)=251 backs(0, 255, 2)=251 set(0, 0, 9) backs(0, 255, 0)=0""");
        s.sentence(26, "BACKS of told PEOPLE by the ROW in SHELF s, as many elements as they are: how many orders (what 0), who may be at the FOOT (1), on top (2).", """
            loads backs(1, 17, 0)=1 backs(1, 0, 0)=1 backs(3, 32, 0)=0 set(3, 0, 0) backs(3, 32, 0)=1
            row(7, 3, 2) set(7, 0, 4294967311) backs(7, 17, 0)=0 set(7, 0, 15) backs(7, 17, 0)=1 set(7, 0, LMIN) backs(7, 17, 0)=0        # 2^32 and 15 aren't 15""");
        s.sentence(26, "BAD SHELF, PEOPLE, what; OTHER; NOTHING; BAD: fewer elements.", """
            loads backs(-1, 17, 0)=BAD backs(8, 17, 0)=BAD backs(MIN, 0, 0)=BAD backs(MAX, 0, 0)=BAD backs(0, 64, 0)=BAD backs(0, -1, 0)=BAD backs(0, MIN, 0)=BAD backs(0, MAX, 0)=BAD
            backs(0, 17, -1)=BAD backs(0, 17, 3)=BAD backs(0, 17, MIN)=BAD backs(0, 17, MAX)=BAD
            backs(6, 64, 0)=BAD backs(6, 17, 3)=BAD backs(7, 64, 0)=BAD backs(7, 17, 3)=BAD backs(6, 17, 0)=OTHER backs(6, 63, 2)=OTHER backs(6, 0, 0)=OTHER
            backs(7, 17, 0)=NOTHING backs(7, 0, 0)=NOTHING backs(0, 19, 0)=BAD backs(3, 17, 0)=BAD backs(5, 1, 0)=BAD backs(0, 17, 0)=1
            new backs(0, 0, 0)=NOTHING backs(0, 1, 0)=BAD new eight row(0, 0, 7) backs(0, 255, 0)=BAD backs(0, 256, 0)=BAD backs(0, 127, 0)=0 row(0, 0, 8) backs(0, 255, 0)=0""");
    }

    private static void ends(Scenes s) {
        s.sentence(42, "Who may be at the FOOT (what 0), on top (1) in ORDERS of told PEOPLE in which it STANDS (bits).", """
            ends(0, 0)=0 ends(0, 1)=0 new six ends(48, 0)=16 ends(48, 1)=32 ends(17, 0)=17 ends(17, 1)=17 ends(32, 0)=32 ends(32, 1)=32
            give(5, 0, 40) give(4, 1, 0) ends(48, 0)=0 ends(48, 1)=0
            new firm3 ends(7, 0)=7 ends(7, 1)=7 give(1, 1, 1) ends(7, 0)=5 ends(7, 1)=7 give(2, 1, 0) ends(7, 0)=1 ends(7, 1)=4 give(1, 1, 0) ends(7, 0)=0 ends(7, 1)=0
            new eight ends(255, 0)=255 ends(255, 1)=255 tell(1, 1) ends(255, 0)=255 give(7, 2, 0) ends(255, 0)=128 ends(255, 1)=127""");
        s.sentence(42, "BAD: also PEOPLE who aren't there.", """
            ends(1, 0)=BAD new six ends(64, 0)=BAD ends(-1, 0)=BAD ends(MIN, 0)=BAD ends(MAX, 1)=BAD ends(1, -1)=BAD ends(1, 2)=BAD ends(1, MIN)=BAD ends(1, MAX)=BAD ends(63, 0)=20 ends(1, 1)=1
            new eight ends(255, 0)=255 ends(256, 0)=BAD""");
    }
}
