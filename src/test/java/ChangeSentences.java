/** Promises 27 to 34, 43 and 44: what would come of it, if. */
final class ChangeSentences {
    private ChangeSentences() {
    }

    static void tell(Scenes s) {
        underAndChange(s);
        outAndWinds(s);
        turns(s);
        ahead(s);
        shifted(s);
    }

    private static void underAndChange(Scenes s) {
        s.sentence(27, "UNDER: the one of PEOPLE who aren't in it who, if he came under the FOOT, all others as they are, left most SLACK at the least (of all in it then),", """
            four under()=1 give(3, 1, 42) under()=1 give(3, 1, 43) under()=3          # -15 is left by number 1, 36 less 51
            new six under()=4 give(4, 1, 31) under()=4 give(4, 1, 30) under()=2                    # nobody is in it: what he bears, 65 or 66 or 64
            new person(0, 0, 1, 5, 40) person(0, 0, 1, 6, 40) person(0, 0, 1, 99, 40) climb(0) under()=1    # 5 is the least with either
            give(1, 1, 5) under()=2""");
        s.sentence(27, "of several the first; NONE: nobody is left, or MOST are in it.", """
            under()=NONE new four give(1, 1, 28) under()=1 give(1, 1, 27) under()=3 tell(1, 5) under()=3 tell(1, 4) under()=NONE
            new firm3 under()=0 climb(0) under()=1 climb(1) under()=2 climb(2) under()=NONE
            new eight tell(1, 8) climb(1) climb(2) climb(3) climb(4) climb(5) climb(6) climb(7) under()=0 tell(1, 7) under()=NONE new full under()=NONE""");
        s.sentence(27, "UNDER; NONE. (NONE isn't refused.)", "under()=NONE new full under()=NONE status(12)=0 status(15)=0 status(16)=0");
        s.sentence(28, "CHANGE: the two in it by whose change of places the least SLACK of all is greatest,", """
            person(0, 0, 10, 10, 40) person(0, 0, 1, 40, 40) person(0, 0, 1, 5, 40) tell(0, 0)
            read"climb 0;climb 1;climb 2"=3 change()=1 at(0)=0 at(1)=1 at(2)=2 read"down;climb 2;climb 0;climb 1"=4 change()=12
            new person(0, 0, 30, 0, 40) person(0, 0, 1, 99, 40) person(0, 0, 1, 99, 40) read"climb 0;climb 1;climb 2"=3 change()=2""");
        s.sentence(28, "of several the first by numbers: 10 times the lesser and the other; NONE: fewer than two are.", """
            change()=NONE new six climb(4) change()=NONE climb(5) change()=45 new four change()=2 comesOut() change()=2 comesOut() change()=5
            new eight climb(7) climb(6) change()=67 new eight climb(7) climb(6) climb(5) change()=56 new full change()=1 new eight climb(0) climb(7) change()=7""");
        s.sentence(28, "CHANGE; NONE. (NONE isn't refused.)", "change()=NONE new six climb(3) change()=NONE status(12)=0 status(15)=0");
    }

    private static void outAndWinds(Scenes s) {
        s.sentence(29, "OUT: PEOPLE (bits) in it without whom (all above a course lower) it STANDS.", """
            out()=0 new six climb(3) out()=8 new four out()=53 give(0, 1, 3) out()=33 new four give(0, 2, 2) stands()=0 out()=21
            give(2, 2, 0) out()=20 give(5, 2, 3) out()=20 give(5, 2, 2) out()=0 new full out()=255""");
        s.sentence(29, "OUT (bits).", "out()=0 new four out()=53 status(12)=0 status(1)=4");
        s.sentence(30, "GALE: the greatest WIND (0 to 9) by which it STANDS; NONE.", """
            gale()=9 new four gale()=9 give(0, 2, 8) gale()=8 give(0, 2, 5) gale()=5 give(0, 2, 0) gale()=0 tell(0, 9) gale()=0 give(0, 1, 4) gale()=0 give(0, 1, 3) gale()=NONE
            new strings read"climb 0;climb 1;climb 2;climb 3"=4 gale()=9 read"climb 4"=1 gale()=6 new six climb(3) give(3, 2, 0) gale()=9""");
        s.sentence(30, "GALE; NONE. (NONE isn't refused.)", "four give(0, 1, 3) gale()=NONE status(12)=0 status(15)=0");
        s.sentence(31, "CHANCE, WIND being 0 to 9, each alike: of 1,000,000, how likely it STANDS.", """
            chance()=1000000 new four chance()=1000000 give(0, 2, 8) chance()=900000 give(0, 2, 5) chance()=600000 give(0, 2, 0) chance()=100000
            tell(0, 9) chance()=100000 give(0, 1, 3) chance()=0""");
        s.sentence(31, "CHANCE.", "chance()=1000000 new four give(0, 1, 3) chance()=0 status(12)=0 status(15)=0");
        s.sentence(32, "FITTEST: of PEOPLE not in it the one who on top leaves it STANDING by the greatest GALE, of several the first; NONE: none does by any.", """
            fittest()=NONE new six fittest()=0 climb(4) climb(2) climb(0) fittest()=3 give(3, 2, 12) fittest()=5 give(5, 2, 12) fittest()=1
            give(1, 2, 11) give(5, 2, 11) give(3, 2, 11) fittest()=1 give(0, 1, 3) fittest()=NONE
            new six climb(4) climb(2) climb(0) give(0, 1, 4) fittest()=5 give(0, 1, 8) fittest()=3 give(0, 1, 3) fittest()=NONE
            new eight climb(7) climb(3) fittest()=0 new full fittest()=NONE
            new strings give(0, 2, 0) give(1, 2, 0) climb(2) fittest()=3 climb(3) climb(4) fittest()=0""");
        s.sentence(32, "FITTEST; NONE. (NONE isn't refused.)", "fittest()=NONE new full fittest()=NONE status(12)=0 status(15)=0");
        s.sentence(43, "The one in it without whom it STANDS by the greatest GALE, of several the first from the FOOT on; NONE: by none.", """
            lighter()=NONE new six climb(3) lighter()=3 new four lighter()=4 give(0, 2, 0) lighter()=0 give(0, 2, 9) give(0, 1, 3) lighter()=0 give(5, 1, 0) lighter()=0
            give(4, 1, 0) give(0, 1, 50) lighter()=4 give(0, 1, 3) lighter()=NONE
            new firm3 read"climb 2;climb 0;climb 1"=3 lighter()=2 give(2, 1, 1) lighter()=2 give(0, 1, 0) lighter()=0 give(2, 1, 0) lighter()=NONE
            new strings give(0, 2, 0) give(1, 2, 0) give(2, 2, 0) read"climb 2;climb 1;climb 0"=3 lighter()=2 give(0, 2, 1) lighter()=2     # by WIND 0; then by 1""");
        s.sentence(43, "(NONE isn't refused.)", "lighter()=NONE status(12)=0 status(15)=0");
    }

    private static void turns(Scenes s) {
        s.sentence(34, "The NEXT by a TURN now (the FOOT comes out first, if it does); NONE: nobody is there.", """
            next()=NONE new firm3 next()=0 climb(1) next()=2 climb(2) next()=0 climb(0) next()=1 status(1)=3
            new firm3 tell(1, 2) climb(2) next()=0 climb(1) next()=2                        # MOST are in it: number 2 comes out first
            new firm3 tell(1, 3) climb(2) climb(1) next()=0 climb(0) next()=2
            new full next()=0 new six climb(4) next()=5 climb(5) next()=0 new person(0, 0, 1, 0, 0) next()=0 climb(0) next()=0""");
        s.sentence(34, "(NONE isn't refused.)", "next()=NONE status(12)=0 status(15)=0");
        s.sentence(52, "TURN: if MOST, or all PEOPLE, are in it, the FOOT comes out first", """
            firm3 tell(1, 2) climb(2) climb(0) days(1)=4 at(0)=0 at(1)=1 status(1)=2         # MOST
            new firm3 climb(2) climb(0) days(1)=6 at(0)=2 at(1)=0 at(2)=1 days(1)=6 at(0)=0 at(1)=1 at(2)=2      # fewer than MOST; then all
            new full days(1)=16 at(0)=1 at(7)=0""");
        s.sentence(52, "(it doesn't FALL by that);", """
            firm3 tell(1, 3) give(1, 1, 0) read"climb 0;climb 1;climb 2"=3 stands()=0 days(1)=0 status(1)=0 status(5)=1 status(4)=1""");
        s.sentence(52, "then the NEXT climbs: of those who aren't in it the first by numbers behind the one on top (round about; nobody is in it: number 0);", """
            firm3 days(1)=2 at(0)=0 new firm3 climb(2) days(1)=4 at(1)=0 new firm3 climb(1) days(1)=4 at(1)=2 new firm3 climb(0) climb(2) days(1)=6 at(2)=1
            new firm3 climb(1) climb(0) days(1)=6 at(2)=2 new eight tell(1, 8) climb(0) climb(1) climb(7) days(1)=8 at(3)=2
            new firm3 tell(1, 1) climb(1) days(1)=2 at(0)=0 days(1)=2 at(0)=0""");
        s.sentence(52, "if it doesn't STAND then, it FALLS: nobody is in it.", """
            firm3 give(0, 1, 1) days(1)=2 days(1)=4 days(1)=0 status(1)=0 status(5)=1 days(1)=2 at(0)=0 status(5)=1
            new firm3 give(0, 1, 2) days(1)=2 days(1)=4 days(1)=6 status(5)=0 new firm3 give(1, 2, 1) climb(0) days(1)=4 new firm3 give(1, 2, 0) climb(0) days(1)=0 status(5)=1""");
        s.sentence(52, "DAY is 1 more (999 at most).", """
            firm3 tell(2, 997) days(1)=2 status(4)=998 days(1)=4 status(4)=999 days(1)=6 status(4)=999 tell(2, 0) days(60) status(4)=60 tell(2, 940) days(60) status(4)=999
            new firm3 give(0, 1, 0) climb(0) days(1)=0 status(5)=1 status(4)=1""");
    }

    private static void ahead(Scenes s) {
        s.sentence(33, "AHEAD n DAYS (0 to 60), a TURN each: HEIGHT, how many are in it, how often it FELL; who is on top; NONE.", """
            ahead(0, 0)=0 ahead(0, 1)=0 ahead(0, 2)=0 ahead(0, 3)=NONE ahead(60, 0)=0 ahead(60, 1)=0 ahead(60, 2)=0 ahead(60, 3)=NONE
            new four ahead(0, 0)=7 ahead(0, 1)=4 ahead(0, 2)=0 ahead(0, 3)=5
            new firm3 tell(1, 2) ahead(1, 0)=2 ahead(1, 1)=1 ahead(1, 3)=0 ahead(2, 0)=4 ahead(2, 3)=1 ahead(3, 1)=2 ahead(3, 3)=2 ahead(60, 0)=4 ahead(60, 2)=0 ahead(60, 3)=2 ahead(59, 3)=1
            new firm3 give(0, 1, 1) ahead(2, 2)=0 ahead(3, 2)=1 ahead(3, 1)=0 ahead(3, 3)=NONE ahead(3, 0)=0 ahead(4, 1)=1 ahead(60, 2)=20 status(5)=0 status(4)=0 status(1)=0""");
        s.sentence(33, "AHEAD: HEIGHT (what 0), how many (1), how often it FELL (2), who is on top (3; NONE). BAD. (NONE isn't refused.)", """
            ahead(-1, 0)=BAD ahead(61, 0)=BAD ahead(MIN, 0)=BAD ahead(MAX, 0)=BAD ahead(0, -1)=BAD ahead(0, 4)=BAD ahead(0, MIN)=BAD ahead(0, MAX)=BAD ahead(60, 3)=NONE ahead(0, 3)=NONE
            status(12)=8 status(15)=0 new firm3 ahead(61, 0)=BAD ahead(60, 4)=BAD ahead(60, 1)=3""");
    }

    private static void shifted(Scenes s) {
        s.sentence(44, "Whether it STANDS, if the one at a course comes out and in again at another (the others in their order): 1, 0.", """
            four shifted(0, 1)=1 shifted(0, 2)=1 shifted(0, 3)=0 shifted(2, 0)=1 shifted(3, 0)=0 shifted(3, 2)=0 shifted(1, 2)=1
            give(0, 2, 1) stands()=0 shifted(2, 1)=1 shifted(2, 0)=1 shifted(3, 1)=0 shifted(1, 0)=0 shifted(1, 3)=0
            new firm3 read"climb 0;climb 1;climb 2"=3 give(0, 1, 0) shifted(0, 2)=1 shifted(2, 0)=0 shifted(0, 1)=0
            new firm3 read"climb 0;climb 1;climb 2"=3 give(2, 1, 1) shifted(0, 2)=1 give(2, 1, 0) shifted(0, 2)=0      # 1, 2, 0 then, not 2, 1, 0
            new full shifted(0, 7)=1 shifted(7, 0)=1""");
        s.sentence(44, "BAD: a course at which nobody is.", """
            shifted(0, 0)=BAD new four shifted(4, 0)=BAD shifted(0, 4)=BAD shifted(-1, 0)=BAD shifted(0, -1)=BAD shifted(MIN, 0)=BAD shifted(0, MAX)=BAD shifted(8, 8)=BAD shifted(0, 3)=0
            new full shifted(8, 0)=BAD shifted(0, 8)=BAD shifted(7, 0)=1""");
    }
}
