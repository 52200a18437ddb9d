/** Promises 48 to 57: told climbs, climbs in truth, draws, images and what is counted. */
final class TruthSentences {
    private TruthSentences() {
    }

    static void tell(Scenes s) {
        toldClimbs(s);
        climbs(s);
        days(s);
        draws(s);
        images(s);
        counts(s);
        bounds(s);
    }

    private static void toldClimbs(Scenes s) {
        s.scene("told", "six row(0, 2, 5) set(0, 0, 4) set(0, 1, 2) set(0, 2, 0) set(0, 3, 5) set(0, 4, 1) show(1, 0)");
        s.sentence(48, "A told CLIMB: a ROW of PEOPLE, climbing one by one behind those in it: WRONG: the first who isn't there, is in it by then, or is beyond MOST; NONE.", """
            told judge(0, 5)=NONE judge(0, 0)=NONE set(0, 3, 4) judge(0, 5)=3 judge(0, 4)=3 judge(0, 3)=NONE
            set(0, 3, 6) judge(0, 5)=3 set(0, 3, -1) judge(0, 5)=3 set(0, 3, 3) judge(0, 5)=NONE set(0, 0, 8) judge(0, 5)=0
            new told tell(1, 5) judge(0, 5)=NONE tell(1, 4) judge(0, 5)=4 judge(0, 4)=NONE tell(1, 1) judge(0, 5)=1
            new told climb(3) judge(0, 5)=NONE climb(5) judge(0, 5)=3 tell(1, 4) judge(0, 5)=2 tell(1, 2) judge(0, 5)=0 judge(0, 0)=NONE
            new told climb(1) judge(0, 5)=4 judge(0, 4)=NONE
            new told row(2, 3, 2) set(2, 0, 4294967296) judge(2, 1)=0 set(2, 0, LMIN) judge(2, 1)=0 set(2, 0, LMAX) judge(2, 1)=0 set(2, 0, -4294967296) judge(2, 1)=0 set(2, 0, 1) judge(2, 2)=NONE     # 2^32 isn't 0
            row(3, 4, 2) set(3, 0, 1) judge(3, 2)=NONE set(3, 1, 1) judge(3, 2)=1 new row(0, 0, 40) judge(0, 40)=0 judge(0, 0)=NONE
            new eight tell(1, 8) row(0, 0, 9) set(0, 1, 1) set(0, 2, 2) set(0, 3, 3) set(0, 4, 4) set(0, 5, 5) set(0, 6, 6) set(0, 7, 7) judge(0, 8)=NONE judge(0, 9)=8""");
        s.sentence(48, "A told CLIMB by the first n elements (0 to 40) of the ROW in SHELF s: WRONG; NONE. BAD SHELF, n; OTHER; NOTHING; BAD: fewer elements.", """
            told judge(-1, 0)=BAD judge(8, 0)=BAD judge(MIN, 0)=BAD judge(MAX, 0)=BAD judge(0, -1)=BAD judge(0, 41)=BAD judge(0, MIN)=BAD judge(0, MAX)=BAD
            judge(1, 41)=BAD judge(1, -1)=BAD judge(2, 41)=BAD judge(2, -1)=BAD judge(1, 0)=OTHER judge(1, 40)=OTHER judge(2, 0)=NOTHING judge(7, 40)=NOTHING
            judge(0, 6)=BAD judge(0, 40)=BAD judge(0, 5)=NONE row(3, 0, 0) judge(3, 0)=NONE judge(3, 1)=BAD row(3, 0, 40) judge(3, 40)=1 row(3, 0, 39) judge(3, 40)=BAD""");
        s.sentence(49, "BREAKS: the first behind whom it doesn't STAND; NONE.", """
            told breaks(0, 5)=4 breaks(0, 4)=NONE give(2, 2, 1) breaks(0, 4)=NONE give(2, 2, 0) breaks(0, 5)=1 breaks(0, 2)=1 breaks(0, 1)=NONE tell(0, 0) breaks(0, 5)=4 give(5, 1, 36) breaks(0, 5)=NONE
            new told climb(3) breaks(0, 1)=NONE breaks(0, 2)=1 new told read"climb 5;climb 3"=2 stands()=0 breaks(0, 0)=NONE breaks(0, 2)=0""");
        s.sentence(49, "BREAKS; NONE. BAD SHELF, n; OTHER; NOTHING; BAD: fewer elements; STUCK: it is WRONG. (NONE isn't refused.)", """
            told breaks(-1, 0)=BAD breaks(8, 0)=BAD breaks(MIN, 0)=BAD breaks(MAX, 0)=BAD breaks(0, -1)=BAD breaks(0, 41)=BAD breaks(0, MIN)=BAD breaks(0, MAX)=BAD
            breaks(1, 41)=BAD breaks(1, -1)=BAD breaks(2, 41)=BAD breaks(1, 0)=OTHER breaks(1, 40)=OTHER breaks(2, 0)=NOTHING breaks(7, 40)=NOTHING breaks(0, 6)=BAD breaks(0, 40)=BAD
            set(0, 4, 4) breaks(0, 5)=STUCK breaks(0, 6)=BAD breaks(0, 4)=NONE breaks(0, 0)=NONE set(0, 4, 6) breaks(0, 5)=STUCK set(0, 4, 1) tell(1, 4) breaks(0, 5)=STUCK breaks(0, 4)=NONE
            status(13)=2 status(14)=2 status(15)=3""");
    }

    private static void climbs(Scenes s) {
        s.sentence(50, "One climbs in truth: whether it STANDS (1, 0).", """
            six climb(4)=1 at(0)=4 climb(5)=1 at(1)=5 status(5)=0 status(4)=0 new six climb(5)=1 climb(4)=0 status(1)=0
            new firm3 tell(0, 2) give(1, 2, 1) climb(0)=1 climb(1)=1 new firm3 give(1, 2, 0) climb(0)=1 climb(1)=0 new firm3 give(0, 1, 1) climb(0)=1 climb(1)=1 climb(2)=0
            new eight tell(1, 8) climb(7)=1 climb(6)=1 climb(5)=1 climb(4)=1 climb(3)=1 climb(2)=1 climb(1)=1 climb(0)=1 status(1)=8
            new firm3 read"climb 0;climb 1"=2 give(0, 1, 0) climb(2)=0 status(5)=1              # one below was crushed ahead of it""");
        s.sentence(50, "IN TRUTH: one climbs (if it doesn't STAND then, it FALLS: FALLEN is 1 more, nobody is in it);", """
            six climb(5) climb(4)=0 status(5)=1 status(1)=0 at(0)=NONE climb(5) climb(4)=0 status(5)=2 status(1)=0 status(4)=0""");
        s.sentence(50, "BAD; STUCK: he is in it, MOST are.", """
            climb(0)=BAD new four climb(-1)=BAD climb(6)=BAD climb(MIN)=BAD climb(MAX)=BAD climb(5)=STUCK climb(4)=STUCK tell(1, 4) climb(1)=STUCK climb(5)=STUCK climb(6)=BAD climb(-1)=BAD
            new six tell(1, 1) climb(4)=1 climb(2)=STUCK tell(1, 2) climb(2)=1 new full climb(0)=STUCK climb(8)=BAD status(5)=0""");
        s.sentence(51, "The FOOT comes out in truth: who it was.", """
            four comesOut()=4 at(0)=2 at(1)=0 at(2)=5 at(3)=NONE comesOut()=2 comesOut()=0 comesOut()=5 status(1)=0 status(5)=0 status(4)=0 new full comesOut()=0 status(1)=7""");
        s.sentence(51, "the FOOT comes out (if it doesn't STAND then, it FALLS); a TURN.", """
            firm3 tell(1, 3) give(1, 1, 0) read"climb 0;climb 1;climb 2"=3 comesOut()=0 status(1)=0 status(5)=1
            new firm3 read"climb 0;climb 1;climb 2"=3 give(0, 1, 1) stands()=0 comesOut()=0 status(1)=2 status(5)=0          # it is right without him
            new firm3 read"climb 0;climb 1;climb 2"=3 give(2, 2, 1) comesOut()=0 status(1)=2 new firm3 read"climb 0;climb 1;climb 2"=3 give(2, 2, 0) comesOut()=0 status(1)=0 status(5)=1
            new firm3 climb(2) days(1)=4 at(1)=0""");
        s.sentence(51, "STUCK: nobody is in it.", "comesOut()=STUCK new six comesOut()=STUCK climb(3) comesOut()=3 comesOut()=STUCK status(15)=2");
    }

    private static void days(Scenes s) {
        s.sentence(52, "TURNS in truth, n (1 to 60): HEIGHT then.", """
            firm3 days(1)=2 days(2)=6 status(4)=3 at(0)=0 days(60)=6 status(4)=63 at(0)=0 days(1)=6 at(0)=1
            new firm3 give(0, 1, 1) days(2)=4 days(1)=0 status(5)=1 days(60)=0 status(5)=21 days(59)=4 status(5)=40
            new person(5, 0, 1, 0, 0) days(60)=1 status(5)=0 status(1)=1""");
        s.sentence(52, "BAD; STUCK: nobody is there.", """
            days(1)=STUCK days(60)=STUCK days(0)=BAD days(61)=BAD days(-1)=BAD days(MIN)=BAD days(MAX)=BAD status(4)=0 new firm3 days(0)=BAD days(61)=BAD days(1)=2""");
        s.sentence(53, "DAYS by draws, n: each: WIND becomes a DRAW below 10; if it doesn't STAND, it FALLS; a TURN; how often it FELL.", """
            person(5, 0, 1, 0, 0) drawn(1)=0 status(2)=8 status(4)=1 status(1)=1
            new person(0, 0, 1, 99, 0) person(0, 0, 1, 99, 0) person(0, 0, 1, 99, 0) tell(0, 0) climb(1) climb(2) drawn(1)=1 at(0)=0 status(1)=1 status(5)=1 status(4)=1
            new person(0, 0, 1, 99, 0) person(0, 0, 1, 99, 0) person(0, 0, 1, 99, 0) tell(0, 0) climb(1) drawn(1)=1 status(1)=0 status(5)=1          # by the TURN
            new person(0, 0, 1, 99, 0) person(0, 0, 1, 99, 0) tell(1, 2) tell(0, 0) climb(0) climb(1) seed(1) drawn(2)=2 status(5)=2 status(4)=2 status(1)=0
            new person(0, 0, 1, 99, 0) person(0, 0, 1, 99, 0) seed(0) climb(0) drawn(1)=0 status(2)=0 status(1)=2""");
        s.sentence(53, "DAYS by draws, n (1 to 60): how often it FELL.", """
            firm3 drawn(60)=0 status(4)=60 status(1)=3 status(5)=0 drawn(1)=0 status(4)=61 tell(2, 999) drawn(1)=0 status(4)=999 give(0, 1, 1) tell(2, 0) drawn(3)=1 status(5)=1 drawn(3)=1 status(5)=2 drawn(2)=1 status(5)=3""");
        s.sentence(53, "BAD; STUCK: nobody is there.", """
            drawn(1)=STUCK drawn(60)=STUCK drawn(0)=BAD drawn(61)=BAD drawn(-1)=BAD drawn(MIN)=BAD drawn(MAX)=BAD status(7)=1 status(2)=2
            new firm3 drawn(0)=BAD drawn(61)=BAD drawn(1)=0""");
    }

    private static void draws(Scenes s) {
        s.sentence(54, "SEED becomes v: the one ahead.", "seed(7)=1 seed(-5)=7 seed(MIN)=-5 seed(MAX)=MIN seed(0)=MAX seed(0)=0 status(7)=0");
        s.sentence(53, "A DRAW below n: SEED (1 at first) becomes SEED times 1103515245, and 12345 (an int, wrapping); its upper 16 bits, no sign, modulo n.", """
            firm3 drawn(1)=0 status(7)=1103527590 status(2)=8 seed(2) drawn(1)=0 status(7)=-2087924461 status(2)=6 seed(3) drawn(1)=0 status(7)=-984409216 status(2)=5
            seed(MAX) drawn(1)=0 status(7)=1043980748 status(2)=9 seed(MIN) drawn(1)=0 status(7)=-2147471303 status(2)=8 seed(-1) drawn(1)=0 status(7)=-1103502900 status(2)=7
            seed(0) drawn(1)=0 status(7)=12345 status(2)=0 new firm3 seed(0) drawn(2)=0 status(2)=6 status(7)=-740551042""");
    }

    private static void images(Scenes s) {
        s.scene("other", """
            person(0, 0, 1, 0, 0) show(0, 6) show(1, 5) row(2, 3, 4) set(2, 1, 9) feed"wind 1" give(4, 0, 1) give(4, 1, 1) give(4, 2, 1) days(9) drawn(7) tell(1, 8) tell(0, 7) at(9)=BAD""");
        s.sentence(55, "All is kept, but THE TAPE, SHELVES and REFUSALS: 1.", """
            image()=1 new four seed(11) tell(2, 5) image()=1 other back()=1 status(0)=6 status(1)=4 status(2)=3 status(3)=6 status(4)=5 status(5)=0 status(7)=11
            at(0)=4 at(1)=2 at(2)=0 at(3)=5 personOf(4, 2)=15 personOf(4, 3)=40 personOf(4, 4)=8 personOf(4, 5)=15 personOf(4, 6)=84
            new four image()=1 comesOut() image()=1 comesOut() back()=1 status(1)=3                              # the later one
            new six climb(5) climb(4) status(5)=1 image()=1 climb(5) climb(4) status(5)=2 back()=1 status(5)=1
            new full image()=1 back()=1 status(1)=8 status(0)=8""");
        s.sentence(56, "All is again as it was kept", """
            image() six climb(3) back()=1 status(0)=0 status(1)=0 status(2)=2 status(3)=5 back()=1
            new four image() back()=1 status(1)=4 give(4, 0, 1) comesOut() back()=1 mass()=51 comesOut() back()=1 status(1)=4            # it is kept still
            new firm3 image() person(3, 9, 40, 99, 40) climb(3) back()=1 status(1)=0 person(5, 9, 40, 2, 2)=3 personOf(3, 5)=20 personOf(3, 7)=1""");
        s.sentence(56, "(SHELVES with PEOPLE hold those of the same numbers, or NOTHING): 1.", """
            firm3 image() person(0, 0, 1, 0, 0) show(0, 3) show(1, 2) show(7, 0) give(2, 2, 3) says(1, 0)=3 back()=1 holds(0)=NONE holds(1)=12 holds(7)=10 says(1, 0)=40 status(8)=2 says(0, 0)=NOTHING
            new image() eight show(0, 0) show(7, 7) row(3, 0, 2) back()=1 holds(0)=NONE holds(7)=NONE holds(3)=0 status(8)=1
            new four image() other back()=1 status(6)=6 holds(0)=NONE holds(1)=15 holds(2)=3 element(2, 1)=9 status(12)=1 tower()=1 status(2)=1      # tape, rows, refusals stay""");
        s.sentence(56, "STUCK: nothing was.", "back()=STUCK new four back()=STUCK image() back()=1 status(15)=1");
    }

    private static void counts(Scenes s) {
        s.sentence(57, "PEOPLE (0), how many are in it (1), WIND (2), MOST (3), DAY (4), FALLEN (5), THE TAPE's size (6), SEED (7), SHELVES that hold something (8);", """
            four tell(2, 44) feed"xy" seed(-9) row(0, 0, 0) show(7, 3) status(0)=6 status(1)=4 status(2)=3 status(3)=6 status(4)=44 status(5)=0 status(6)=2 status(7)=-9 status(8)=2
            new full status(0)=8 status(1)=8 row(0, 0, 1) row(1, 0, 1) row(2, 0, 1) row(3, 0, 1) show(4, 0) show(5, 0) show(6, 7) row(7, 0, 1) status(8)=8 show(7, NONE) status(8)=7
            new six climb(5) climb(4) status(5)=1 status(1)=0 new 250*feed(0) status(6)=250""");
        s.sentence(57, "12 to 16: REFUSALS -1002 to -1006.", """
            eight show(0, 0) at(8)=BAD at(8)=BAD set(0, 0, 0)=OTHER set(1, 0, 0)=NOTHING set(1, 0, 0)=NOTHING set(1, 0, 0)=NOTHING comesOut()=STUCK
            person(0, 0, 1, 0, 0)=FULL person(0, 0, 1, 0, 0)=FULL person(0, 0, 1, 0, 0)=FULL person(0, 0, 1, 0, 0)=FULL
            status(12)=2 status(13)=1 status(14)=3 status(15)=1 status(16)=4 tower()=-2000 status(12)=3""");
        s.sentence(57, "NONE another what.", "status(-1)=NONE status(9)=NONE status(10)=NONE status(11)=NONE status(17)=NONE status(MIN)=NONE status(MAX)=NONE status(12)=0 status(8)=0 status(16)=0");
        s.sentence(57, "REFUSALS (the call answers the number; nothing changes but how many there were; the first that fits as each line has them): "
                + "-1002 BAD a number that may not be, nothing of that number.", "at(8)=-1002 personOf(0, 0)=-1002 status(12)=2 status(13)=0 status(14)=0 status(15)=0 status(16)=0");
        s.sentence(57, "-1003 OTHER: a SHELF that holds another thing than is wanted.", "six show(0, 0) row(1, 0, 1) set(0, 0, 0)=-1003 says(1, 0)=-1003 judge(0, 0)=-1003 backs(0, 0, 0)=-1003 status(13)=4 status(14)=0");
        s.sentence(57, "-1004 NOTHING: a SHELF that holds NOTHING.", "set(0, 0, 0)=-1004 says(1, 0)=-1004 judge(7, 0)=-1004 backs(0, 0, 0)=-1004 copy(0, 1, 0, 0, 0)=-1004 status(14)=5 status(13)=0");
        s.sentence(57, "-1005 STUCK: it can't be as things stand. -1006 FULL.", "comesOut()=-1005 back()=-1005 days(1)=-1005 least(0)=-1005 status(15)=4 eight person(0, 0, 1, 0, 0)=-1006 status(16)=1 status(12)=0");
    }

    private static void bounds(Scenes s) {
        s.sentence(57, "An object is used for at most 512 calls after it has been made; what later calls answer is free.", """
            long 510*comesOut()=STUCK status(15)=510 status(12)=0
            new long 504*row(7, 3, 40)=1 set(7, 39, 9)=1 element(7, 39)=9 person(3, 9, 40, 99, 40)=0 climb(0)=1 image()=1 back()=1 drawn(60)=0 height()=6
            new long eight tell(1, 8) 250*highest(1)=16 245*orders(255, NONE)=40320 days(60)=16 status(4)=60
            new long 250*feed(32) tower()=-2250 250*feed(59) tower()=-2000 status(12)=2""");
    }
}
