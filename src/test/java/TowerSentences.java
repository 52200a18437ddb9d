/** Promises 15 to 21, 35 to 41 and 45 to 47: people and the tower as they are. */
final class TowerSentences {
    private TowerSentences() {
    }

    static void tell(Scenes s) {
        figures(s);
        places(s);
        bearing(s);
        standing(s);
        who(s);
        whatItTakes(s);
        foot(s);
        sums(s);
    }

    private static void figures(Scenes s) {
        s.sentence(15, "Of one of the PEOPLE: KIND (0), a (1), WEIGHT (2), STRENGTH (3), NERVE (4), MASS (5), BEARS (6), TALLNESS (7), "
                + "at which course he is (8: the FOOT 0; NONE).", """
            six personOf(3, 0)=3 personOf(3, 1)=6 personOf(3, 2)=10 personOf(3, 3)=30 personOf(3, 4)=20 personOf(3, 5)=8 personOf(3, 6)=24 personOf(3, 7)=5 personOf(3, 8)=NONE
            new four personOf(4, 8)=0 personOf(2, 8)=1 personOf(0, 8)=2 personOf(5, 8)=3 personOf(1, 8)=NONE comesOut() personOf(4, 8)=NONE personOf(5, 8)=2
            new full personOf(7, 8)=7 personOf(0, 8)=0""");
        s.sentence(15, "BAD.", """
            personOf(0, 0)=BAD new six personOf(5, 0)=5 personOf(6, 0)=BAD personOf(-1, 0)=BAD personOf(MIN, 0)=BAD personOf(MAX, 0)=BAD
            personOf(0, -1)=BAD personOf(0, 9)=BAD personOf(0, MIN)=BAD personOf(0, MAX)=BAD personOf(0, 0)=0 personOf(0, 8)=NONE
            new eight personOf(7, 0)=0 personOf(8, 0)=BAD""");
        s.sentence(15, "(NONE isn't refused.)", "six personOf(0, 8)=NONE status(12)=0 status(15)=0");
        s.sentence(15, "MASS: PERSON, STRONG, WIDOW WEIGHT; TALL WEIGHT and a; STRING half of what a TALL one has (cut); CHILD half of WEIGHT (cut).", """
            person(0, 9, 40, 0, 0) person(2, 9, 40, 0, 0) person(4, 9, 40, 0, 0) person(1, 9, 40, 0, 0) person(3, 9, 40, 0, 0) person(5, 9, 40, 0, 0)
            personOf(0, 5)=40 personOf(1, 5)=40 personOf(2, 5)=40 personOf(3, 5)=49 personOf(4, 5)=24 personOf(5, 5)=20
            new person(0, 9, 1, 0, 0) person(2, 9, 1, 0, 0) person(4, 9, 1, 0, 0) person(1, 0, 1, 0, 0) person(3, 0, 1, 0, 0) person(5, 9, 1, 0, 0)
            personOf(0, 5)=1 personOf(1, 5)=1 personOf(2, 5)=1 personOf(3, 5)=1 personOf(4, 5)=0 personOf(5, 5)=0
            give(5, 0, 2) personOf(5, 5)=1 give(5, 0, 3) personOf(5, 5)=1 give(4, 0, 2) personOf(4, 5)=1 give(4, 0, 3) personOf(4, 5)=1""");
        s.sentence(15, "BEARS: PERSON STRENGTH; TALL, STRING STRENGTH less a (0 at least); STRONG STRENGTH and a; WIDOW twice what a STRONG one does; "
                + "CHILD half of STRENGTH (cut).", """
            person(0, 9, 1, 99, 0) person(1, 9, 1, 99, 0) person(3, 9, 1, 99, 0) person(2, 9, 1, 99, 0) person(4, 9, 1, 99, 0) person(5, 9, 1, 99, 0)
            personOf(0, 6)=99 personOf(1, 6)=90 personOf(2, 6)=90 personOf(3, 6)=108 personOf(4, 6)=216 personOf(5, 6)=49
            give(1, 1, 10) personOf(1, 6)=1 give(1, 1, 9) personOf(1, 6)=0 give(1, 1, 8) personOf(1, 6)=0 give(1, 1, 0) personOf(1, 6)=0
            give(2, 1, 10) personOf(2, 6)=1 give(2, 1, 9) personOf(2, 6)=0 give(2, 1, 8) personOf(2, 6)=0 give(2, 1, 0) personOf(2, 6)=0
            give(0, 1, 0) personOf(0, 6)=0 give(3, 1, 0) personOf(3, 6)=9 give(4, 1, 0) personOf(4, 6)=18
            give(5, 1, 0) personOf(5, 6)=0 give(5, 1, 1) personOf(5, 6)=0 give(5, 1, 2) personOf(5, 6)=1 give(5, 1, 98) personOf(5, 6)=49""");
        s.sentence(15, "TALLNESS: PERSON, STRONG, WIDOW 2; TALL 3; STRING 3 and a third of a (cut); CHILD 1.", """
            person(0, 9, 1, 0, 0) person(2, 9, 1, 0, 0) person(4, 9, 1, 0, 0) person(1, 9, 1, 0, 0) person(5, 9, 1, 0, 0)
            personOf(0, 7)=2 personOf(1, 7)=2 personOf(2, 7)=2 personOf(3, 7)=3 personOf(4, 7)=1
            new person(3, 0, 1, 0, 0) person(3, 2, 1, 0, 0) person(3, 3, 1, 0, 0) person(3, 5, 1, 0, 0) person(3, 6, 1, 0, 0) person(3, 8, 1, 0, 0) person(3, 9, 1, 0, 0)
            personOf(0, 7)=3 personOf(1, 7)=3 personOf(2, 7)=4 personOf(3, 7)=4 personOf(4, 7)=5 personOf(5, 7)=5 personOf(6, 7)=6""");
    }

    private static void places(Scenes s) {
        s.sentence(16, "Who is at a course; NONE.", "at(0)=NONE at(7)=NONE new four at(0)=4 at(1)=2 at(2)=0 at(3)=5 at(4)=NONE at(7)=NONE new full at(0)=0 at(7)=7");
        s.sentence(16, "BAD: not 0 to 7.", "at(-1)=BAD at(8)=BAD at(MIN)=BAD at(MAX)=BAD new full at(-1)=BAD at(8)=BAD at(7)=7 at(0)=0");
        s.sentence(16, "(NONE isn't refused.)", "at(0)=NONE at(7)=NONE status(12)=0 status(15)=0");
        s.sentence(46, "Who is on top; NONE.", "top()=NONE new four top()=5 comesOut() top()=5 new six climb(3) top()=3 comesOut() top()=NONE new full top()=7");
        s.sentence(46, "(NONE isn't refused.)", "top()=NONE status(12)=0 status(15)=0");
        s.sentence(47, "How many of the PEOPLE are of just a KIND.", """
            six ofKind(0)=1 ofKind(1)=1 ofKind(2)=1 ofKind(3)=1 ofKind(4)=1 ofKind(5)=1 person(3, 0, 1, 0, 0) ofKind(3)=2 ofKind(1)=1 climb(3) ofKind(3)=2
            new eight ofKind(0)=8 ofKind(5)=0 new ofKind(0)=0""");
        s.sentence(47, "BAD.", "ofKind(-1)=BAD ofKind(6)=BAD ofKind(0)=0 ofKind(5)=0 ofKind(MIN)=BAD ofKind(MAX)=BAD");
    }

    private static void bearing(Scenes s) {
        s.sentence(17, "Of one in THE TOWER: LOAD (what 0), SLACK (1; it may be below 0), UP (2), whether he is CRUSHED (3; 1, 0), SHAKES (4).", """
            four of(4, 0)=36 of(4, 1)=48 of(4, 2)=0 of(4, 3)=0 of(4, 4)=0 of(0, 0)=4 of(0, 1)=46 of(0, 2)=4 of(5, 0)=0 of(5, 1)=6 of(5, 2)=6
            give(0, 1, 0) of(0, 1)=-4 of(0, 3)=1 of(0, 4)=0 give(5, 2, 0) of(5, 4)=1 of(5, 3)=0""");
        s.sentence(17, "Of one in THE TOWER: LOAD: MASS of all above together. SLACK: BEARS less LOAD. UP: TALLNESS of all below together.", """
            four of(2, 0)=16 of(2, 1)=49 of(2, 2)=2 new six climb(3) of(3, 0)=0 of(3, 1)=24 of(3, 2)=0 new full of(0, 0)=7 of(0, 1)=92 of(0, 2)=0 of(7, 0)=0 of(7, 2)=14""");
        s.sentence(17, "He is CRUSHED, if LOAD is above BEARS;", "four give(0, 1, 4) of(0, 1)=0 of(0, 3)=0 give(0, 1, 3) of(0, 1)=-1 of(0, 3)=1 give(5, 1, 0) of(5, 1)=0 of(5, 3)=0");
        s.sentence(17, "he SHAKES, if a quarter of UP times WIND (cut) is above NERVE.", """
            four give(5, 2, 4) of(5, 4)=0 give(5, 2, 3) of(5, 4)=1                 # UP 6, WIND 3: 18 quarters are 4
            give(2, 2, 1) of(2, 4)=0 give(2, 2, 0) of(2, 4)=1 tell(0, 1) of(2, 4)=0 tell(0, 2) of(2, 4)=1      # UP 2: 2 quarters are none, 4 are one
            tell(0, 0) give(5, 2, 0) of(5, 4)=0 of(2, 4)=0 tell(0, 9) of(2, 4)=1 give(2, 2, 4) of(2, 4)=0 give(2, 2, 3) of(2, 4)=1
            give(4, 2, 0) of(4, 4)=0                                          # the FOOT never does""");
        s.sentence(17, "BAD; STUCK: he isn't in it.", """
            four of(-1, 0)=BAD of(6, 0)=BAD of(MIN, 0)=BAD of(MAX, 0)=BAD of(4, -1)=BAD of(4, 5)=BAD of(4, MIN)=BAD of(4, MAX)=BAD
            of(1, 0)=STUCK of(3, 4)=STUCK of(1, 5)=BAD of(1, -1)=BAD new of(0, 0)=BAD new six of(0, 0)=STUCK of(5, 4)=STUCK""");
    }

    private static void standing(Scenes s) {
        s.sentence(18, "Whether THE TOWER STANDS: 1, 0.", """
            stands()=1 new four stands()=1 give(0, 1, 3) stands()=0 new four give(5, 2, 3) stands()=0 new full stands()=1 new six give(3, 1, 0) climb(3) stands()=1""");
        s.sentence(18, "THE TOWER STANDS, if nobody is CRUSHED nor SHAKES.", """
            four give(0, 1, 4) give(5, 2, 4) stands()=1 give(0, 1, 3) stands()=0 give(0, 1, 4) stands()=1 give(5, 2, 3) stands()=0 tell(0, 2) stands()=1""");
        s.sentence(19, "WEAK: the first from the FOOT on who is CRUSHED or SHAKES; NONE.", """
            weak()=NONE new four weak()=NONE give(5, 2, 3) weak()=5 give(0, 1, 3) weak()=0 give(2, 2, 0) weak()=2 give(4, 1, 0) weak()=4 status(12)=0
            new four give(2, 1, 0) weak()=2 give(4, 2, 0) weak()=2""");
        s.sentence(19, "WEAK; NONE. (NONE isn't refused.)", "weak()=NONE status(12)=0 status(15)=0");
        s.sentence(20, "HEIGHT: TALLNESS of all in it together.", "height()=0 new four height()=7 comesOut() height()=5 new full height()=16 new six climb(3) height()=5");
        s.sentence(20, "HEIGHT.", "height()=0 status(12)=0 status(15)=0");
        s.sentence(21, "The least SLACK (what 0; it may be below 0), whose, the first from the FOOT on (1).", """
            four least(0)=6 least(1)=5 give(0, 1, 10) least(0)=6 least(1)=0 give(0, 1, 11) least(1)=5 give(0, 1, 9) least(0)=5 least(1)=0
            give(4, 1, 0) give(2, 1, 0) least(0)=-32 least(1)=4 new six climb(1) least(0)=36 least(1)=1
            new full least(0)=92 least(1)=0""");
        s.sentence(21, "BAD; STUCK: nobody is in it.", "least(0)=STUCK least(1)=STUCK least(-1)=BAD least(2)=BAD least(MIN)=BAD least(MAX)=BAD new four least(2)=BAD least(-1)=BAD least(0)=6");
    }

    private static void who(Scenes s) {
        s.sentence(35, "PEOPLE (bits) in it (what 0), who could climb and it STOOD (1; none, if MOST are in it), who are CRUSHED (2), who SHAKE (3).", """
            who(0)=0 who(1)=0 who(2)=0 who(3)=0 new six who(0)=0 who(1)=63
            climb(4) climb(2) climb(0) who(0)=21 who(1)=42 give(1, 2, 4) who(1)=42 give(1, 2, 3) who(1)=40      # UP 6, WIND 3: 4
            tell(1, 4) who(1)=40 tell(1, 3) who(1)=0 who(2)=0 who(3)=0
            give(2, 1, 6) give(0, 2, 3) who(2)=4 who(3)=0 give(4, 1, 13) who(2)=20 give(4, 1, 14) who(2)=4 give(0, 2, 2) who(3)=1 give(2, 2, 0) who(3)=5
            new full who(0)=255 who(1)=0 who(2)=0 tell(0, 9) give(7, 2, 30) who(3)=128 give(0, 1, 6) who(2)=1""");
        s.sentence(35, "BAD.", "who(-1)=BAD who(4)=BAD who(MIN)=BAD who(MAX)=BAD who(3)=0 who(0)=0");
    }

    private static void whatItTakes(Scenes s) {
        s.sentence(36, "How many more, each of MASS m (1 to 40), of no TALLNESS, may come on top till somebody is CRUSHED (0 to 99; 99: or more).", """
            four room(1)=6 room(2)=3 room(3)=2 room(4)=1 room(6)=1 room(7)=0 room(40)=0 give(0, 1, 4) room(1)=0 give(0, 1, 3) room(1)=0
            new person(0, 0, 1, 98, 0) climb(0) room(1)=98 give(0, 1, 99) room(1)=99 room(40)=2
            new person(2, 1, 1, 99, 0) climb(0) room(1)=99 room(2)=50 new person(4, 9, 1, 99, 0) climb(0) room(1)=99 room(2)=99 room(3)=72 room(40)=5
            new four tell(1, 4) give(5, 2, 3) room(1)=6""");
        s.sentence(36, "BAD; STUCK: nobody is in it.", "room(1)=STUCK room(40)=STUCK room(0)=BAD room(41)=BAD room(-1)=BAD room(MIN)=BAD room(MAX)=BAD new four room(0)=BAD room(41)=BAD room(1)=6");
        s.sentence(37, "The least STRENGTH (0 to 99) of one in it, all else as it is, by which he isn't CRUSHED; NONE.", """
            four needs(4)=16 needs(2)=11 needs(0)=4 needs(5)=0 give(4, 1, 16) stands()=1 give(4, 1, 15) stands()=0 needs(4)=16
            new person(1, 4, 1, 0, 40) person(5, 0, 6, 0, 40) read"climb 0;climb 1"=2 needs(0)=7 give(1, 0, 1) needs(0)=0      # a TALL one; nothing lies on him
            new person(5, 0, 1, 0, 40) person(1, 9, 40, 99, 40) read"climb 0;climb 1"=2 needs(0)=98                             # a CHILD bears 49 at most
            new person(5, 0, 1, 0, 40) person(0, 0, 10, 99, 40) person(0, 0, 40, 0, 40) read"climb 0;climb 1;climb 2"=3 needs(0)=NONE
            new person(0, 0, 1, 0, 40) person(0, 0, 40, 0, 40) person(0, 0, 40, 0, 40) person(0, 0, 19, 0, 40) read"climb 0;climb 1;climb 2;climb 3"=4 needs(0)=99
            give(3, 0, 20) needs(0)=NONE give(3, 0, 18) needs(0)=98 give(0, 1, 99) needs(0)=98""");
        s.sentence(37, "BAD; STUCK: he isn't in it.", "needs(0)=BAD new four needs(1)=STUCK needs(6)=BAD needs(-1)=BAD needs(MIN)=BAD needs(MAX)=BAD needs(5)=0");
        s.sentence(37, "(NONE isn't refused.)", "person(5, 0, 1, 0, 40) person(1, 9, 40, 99, 40) person(0, 0, 1, 0, 40) read\"climb 0;climb 1;climb 2\"=3 needs(0)=NONE status(12)=0 status(15)=0");
        s.sentence(38, "The least NERVE (0 to 40) of one in it by which he doesn't SHAKE; NONE.", """
            four nerves(4)=0 nerves(2)=1 nerves(0)=3 nerves(5)=4 give(5, 2, 4) stands()=1 give(5, 2, 3) stands()=0 nerves(5)=4 tell(0, 0) nerves(5)=0
            new strings read"wind 9;climb 0;climb 1;climb 2;climb 3"=5 nerves(3)=40 read"climb 4"=1 nerves(4)=NONE nerves(3)=40 tell(0, 6) nerves(4)=36""");
        s.sentence(38, "BAD; STUCK: he isn't in it.", "nerves(0)=BAD new four nerves(1)=STUCK nerves(6)=BAD nerves(-1)=BAD nerves(MIN)=BAD nerves(MAX)=BAD nerves(4)=0");
        s.sentence(38, "(NONE isn't refused.)", "strings read\"wind 9;climb 0;climb 1;climb 2;climb 3;climb 4\"=6 nerves(4)=NONE status(12)=0 status(15)=0");
    }

    private static void foot(Scenes s) {
        s.sentence(39, "Whether one could be at the FOOT of all others who are in it (he in it or not; if he is, he is taken out first), nobody CRUSHED: 1, 0.", """
            six foot(5)=1 give(5, 1, 0) foot(5)=1                                  # nobody else is in it
            new four foot(4)=1 foot(2)=1 foot(0)=1 foot(5)=0 foot(1)=0 foot(3)=0
            give(1, 1, 55) foot(1)=1 give(1, 1, 54) foot(1)=0                      # 51 lie on him
            give(0, 1, 39) foot(0)=1 give(0, 1, 38) foot(0)=0                      # 39 lie on him, he isn't among them
            new four tell(0, 9) give(5, 2, 0) foot(4)=1 foot(2)=1                  # who shakes isn't looked at
            new four give(0, 1, 3) foot(4)=0 foot(0)=0 give(0, 1, 99) foot(0)=1    # another may be the one who is crushed
            new full foot(7)=1 foot(0)=1 give(7, 1, 7) foot(7)=1 give(7, 1, 6) foot(7)=0""");
        s.sentence(39, "BAD.", "foot(0)=BAD new six foot(-1)=BAD foot(6)=BAD foot(MIN)=BAD foot(MAX)=BAD foot(5)=1 foot(0)=1");
    }

    private static void sums(Scenes s) {
        s.sentence(40, "All MASS in it together.", "mass()=0 new four mass()=51 comesOut() mass()=36 new full mass()=8 new six climb(3) mass()=8");
        s.sentence(41, "FOND of all in it who are one above the other together.", "gladness()=0 new six climb(3) gladness()=0 climb(5) gladness()=9 new four gladness()=17 new full gladness()=70");
        s.sentence(45, "FOND of the one at a course and the one above him.", "four between(0)=7 between(1)=6 between(2)=4 new full between(0)=10 between(6)=10");
        s.sentence(45, "BAD: a course at which nobody is, or nobody above.", """
            between(0)=BAD new four between(3)=BAD between(4)=BAD between(-1)=BAD between(8)=BAD between(MIN)=BAD between(MAX)=BAD between(2)=4
            new six climb(3) between(0)=BAD new full between(7)=BAD between(8)=BAD between(6)=10""");
    }
}
