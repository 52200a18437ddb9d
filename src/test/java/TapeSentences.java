/** Promises 9 to 14: people, what is given and told, the tape and the towers read from it. */
final class TapeSentences {
    private TapeSentences() {
    }

    static void tell(Scenes s) {
        people(s);
        givenAndTold(s);
        tape(s);
        tokens(s);
        statements(s);
        faults(s);
    }

    private static void people(Scenes s) {
        s.sentence(9, "PEOPLE have numbers, 0 on, 8 at most, each of a KIND:", """
            person(0, 0, 1, 0, 0)=0 person(1, 0, 1, 0, 0)=1 person(2, 0, 1, 0, 0)=2 person(3, 0, 1, 0, 0)=3 person(4, 0, 1, 0, 0)=4
            person(5, 0, 1, 0, 0)=5 person(0, 0, 1, 0, 0)=6 person(0, 0, 1, 0, 0)=7 person(0, 0, 1, 0, 0)=FULL status(0)=8 personOf(7, 0)=0 personOf(8, 0)=BAD
            personOf(1, 0)=1 personOf(4, 0)=4 personOf(5, 0)=5""");
        s.sentence(9, "One of the PEOPLE: the number.", "person(3, 5, 17, 44, 23)=0 personOf(0, 0)=3 personOf(0, 1)=5 personOf(0, 2)=17 personOf(0, 3)=44 personOf(0, 4)=23");
        s.sentence(9, "a (0 to 9), WEIGHT (1 to 40), STRENGTH (0 to 99), NERVE (0 to 40).", """
            person(0, 0, 1, 0, 0)=0 person(0, 9, 40, 99, 40)=1 personOf(1, 1)=9 personOf(1, 2)=40 personOf(1, 3)=99 personOf(1, 4)=40
            person(0, -1, 1, 0, 0)=BAD person(0, 10, 1, 0, 0)=BAD person(0, 0, 0, 0, 0)=BAD person(0, 0, 41, 0, 0)=BAD person(0, 0, 1, -1, 0)=BAD
            person(0, 0, 1, 100, 0)=BAD person(0, 0, 1, 0, -1)=BAD person(0, 0, 1, 0, 41)=BAD status(0)=2""");
        s.sentence(9, "BAD; FULL.", """
            person(-1, 0, 1, 0, 0)=BAD person(6, 0, 1, 0, 0)=BAD person(5, 0, 1, 0, 0)=0 person(MIN, 0, 1, 0, 0)=BAD person(MAX, 0, 1, 0, 0)=BAD
            person(0, MIN, 1, 0, 0)=BAD person(0, MAX, 1, 0, 0)=BAD person(0, 0, MIN, 0, 0)=BAD person(0, 0, MAX, 0, 0)=BAD person(0, 0, -1, 0, 0)=BAD
            person(0, 0, 1, MIN, 0)=BAD person(0, 0, 1, MAX, 0)=BAD person(0, 0, 1, 0, MIN)=BAD person(0, 0, 1, 0, MAX)=BAD
            new eight person(0, 0, 1, 0, 0)=FULL person(6, 0, 1, 0, 0)=BAD person(0, 10, 1, 0, 0)=BAD person(0, 0, 0, 0, 0)=BAD person(0, 0, 1, 100, 0)=BAD
            person(0, 0, 1, 0, 41)=BAD status(16)=1 status(12)=5""");
    }

    private static void givenAndTold(Scenes s) {
        s.sentence(10, "WEIGHT (what 0), STRENGTH (1), NERVE (2) of one becomes v: what it was.", """
            six give(1, 0, 1)=14 personOf(1, 2)=1 give(1, 0, 40)=1 personOf(1, 2)=40 personOf(1, 5)=44
            give(1, 1, 0)=40 personOf(1, 3)=0 personOf(1, 6)=0 give(1, 1, 99)=0 personOf(1, 3)=99 personOf(1, 6)=95
            give(1, 2, 0)=12 personOf(1, 4)=0 give(1, 2, 40)=0 personOf(1, 4)=40 give(5, 0, 1)=9 personOf(5, 5)=0 give(0, 1, 7)=50 give(0, 1, 7)=7
            new four give(0, 1, 3)=50 stands()=0 status(1)=4 status(5)=0           # it doesn't fall by that""");
        s.sentence(10, "BAD.", """
            six give(1, 0, 0)=BAD give(1, 0, 41)=BAD give(1, 0, -1)=BAD give(1, 1, -1)=BAD give(1, 1, 100)=BAD give(1, 2, -1)=BAD give(1, 2, 41)=BAD
            give(1, -1, 5)=BAD give(1, 3, 5)=BAD give(1, -1, 0)=BAD give(1, -2, 0)=BAD give(1, 3, 0)=BAD give(1, 4, 0)=BAD give(1, MIN, 5)=BAD give(1, MAX, 5)=BAD give(1, 0, MIN)=BAD give(1, 1, MAX)=BAD
            give(-1, 0, 5)=BAD give(6, 0, 5)=BAD give(MIN, 0, 5)=BAD give(MAX, 0, 5)=BAD give(5, 0, 5)=9 give(0, 0, 5)=12
            new give(0, 0, 5)=BAD new eight give(7, 0, 5)=1 give(8, 0, 5)=BAD""");
        s.sentence(11, "WIND (what 0), MOST (1; no fewer than are in THE TOWER), DAY (2) becomes v: what it was.", """
            tell(0, 0)=2 status(2)=0 tell(0, 9)=0 status(2)=9 tell(1, 1)=5 status(3)=1 tell(1, 8)=1 status(3)=8 tell(2, 999)=0 status(4)=999 tell(2, 0)=999 status(4)=0
            new four tell(1, 4)=6 tell(1, 3)=BAD tell(1, 1)=BAD status(3)=4 comesOut() tell(1, 3)=4
            new full tell(1, 8)=8 tell(1, 7)=BAD
            new four give(0, 2, 2) tell(0, 9)=3 stands()=0 status(1)=4 status(5)=0           # it doesn't fall by that""");
        s.sentence(11, "WIND (0 to 9;", "tell(0, -1)=BAD tell(0, 10)=BAD tell(0, 0)=2 tell(0, 9)=0 tell(0, MIN)=BAD tell(0, MAX)=BAD");
        s.sentence(11, "MOST (1 to 8: how many courses;", "tell(1, 0)=BAD tell(1, 9)=BAD tell(1, 1)=5 tell(1, 8)=1 tell(1, -1)=BAD tell(1, MIN)=BAD tell(1, MAX)=BAD");
        s.sentence(11, "DAY (0 to 999;", "tell(2, -1)=BAD tell(2, 1000)=BAD tell(2, 0)=0 tell(2, 999)=0 tell(2, MIN)=BAD tell(2, MAX)=BAD");
        s.sentence(11, "BAD.", "tell(-1, 1)=BAD tell(3, 1)=BAD tell(-1, 0)=BAD tell(3, 0)=BAD tell(MIN, 1)=BAD tell(MAX, 1)=BAD status(2)=2 status(3)=5 status(4)=0 status(12)=6");
    }

    private static void tape(Scenes s) {
        s.sentence(12, "THE TAPE gets one byte (0 to 255) behind it: its size.", """
            feed(0)=1 feed(255)=2 feed(-1)=BAD feed(256)=BAD feed(MIN)=BAD feed(MAX)=BAD status(6)=2
            new feed"wind " feed(55)=6 tower()=1 status(2)=7                       # behind what is there""");
        s.sentence(12, "BAD; FULL.", """
            feed"wind 7" 243*feed(32) feed(32)=250 feed(32)=FULL feed(0)=FULL feed(-1)=BAD feed(256)=BAD status(6)=250 status(16)=2 status(12)=2""");
        s.sentence(13, "THE TAPE is empty: its size ahead.", """
            wipe()=0 feed"wind 7" wipe()=6 wipe()=0 status(6)=0 tower()=-2000 status(2)=2
            new 250*feed(59) wipe()=250 feed"wind 7" status(6)=6 tower()=1 status(2)=7""");
    }

    private static void tokens(Scenes s) {
        s.sentence(14, "A TOWER is read from THE TAPE (bytes, 250 at most).", """
            feed"wind 7" 244*feed(32) tower()=1 status(2)=7 new 244*feed(32) feed"wind 7" tower()=1 status(2)=7
            new 249*feed(32) feed"d" tower()=-2249 new 250*feed(32) tower()=-2250""");
        s.sentence(14, "TOKENS, each as long as can be: WORDS (a .. z), NUMBERS (digits), the SIGN ;", """
            read"wind3"=1 status(2)=3 read"wind3;day4"=2 status(4)=4 read"person0 1 2 3 4"=1
            new read"winda"=-2000 read"windz 3"=-2000 read"awind 3"=-2000 read"downdown"=-2000 read"w ind 3"=-2000 read"win"=-2000 read"windwind 3"=-2000
            new read"xown"=-2000 read"dowx"=-2000 read"xind 3"=-2000 read"winx 3"=-2000 read"xost 3"=-2000 read"mosx 3"=-2000 read"xay 3"=-2000 read"dax 3"=-2000
            new six read"xlimb 0"=-2000 read"climx 0"=-2000 read"xerson 0 0 1 0 0"=-2000 read"persox 0 0 1 0 0"=-2000 read"day a"=-2004 read"day aa"=-2004 read"day ;"=-2004
            new read"down`"=-2004 read"down{"=-2004 read"`down"=-2000 read"{"=-2000 read"DOWN"=-2000 read"dowN"=-2000 read"dow N"=-2000
            new read"wind/"=-2004 read"wind:"=-2004 read"wind 9/"=-2006 read"wind 0:"=-2006 read"wind 3down"=-2006 read"wind 12"=-2005 read"wind 1 2"=-2007
            new read"down<"=-2004 read"down:down"=-2004 read"down,"=-2004 read"wind-1"=-2004 read"wind +1"=-2005 read"wind 1.5"=-2006""");
        s.sentence(14, "- blanks (32) may stand anywhere between.", """
            read"  wind   3  ;  day  4  "=2 status(2)=3 status(4)=4 read" down"=1 read"down "=1 read"down ;wind 4"=2 read"down; wind 4"=2
            read"wind 1 0"=-2007 read"wi nd 3"=-2000 read"person 0  1   2 3  4 "=1
            new feed"down" feed(9) tower()=-2004 feed"down" feed(10) tower()=-2004 feed"down" feed(31) tower()=-2004 feed"down" feed(33) tower()=-2004
            feed"down" feed(160) tower()=-2004 feed"down" feed(0) tower()=-2004 feed(255) tower()=-2000 feed(13) feed"down" tower()=-2000""");
        s.sentence(14, "STATEMENTS, one or more, with ; between:", """
            read""=-2000 read"down"=1 read"down;down"=2 read"down;"=-2005 read";"=-2000 read";down"=-2000 read"down;;down"=-2005 read"down down"=-2005
            read"down 1"=-2005 read"1"=-2000 read"   "=-2003 read"down ; "=-2007 read"down;down;down"=3
            new 49*feed"down;" feed"down" tower()=50 new 50*feed"down;" tower()=-2250""");
    }

    private static void statements(Scenes s) {
        s.sentence(14, "person K A W S N (WEIGHT, STRENGTH, NERVE);", """
            read"person 1 2 3 4 5"=1 personOf(0, 0)=1 personOf(0, 1)=2 personOf(0, 2)=3 personOf(0, 3)=4 personOf(0, 4)=5
            read"person 0 0 1 0 0"=1 read"person 5 9 40 99 40"=1 personOf(2, 0)=5 personOf(2, 1)=9 personOf(2, 2)=40 personOf(2, 3)=99 personOf(2, 4)=40
            new read"person 6 0 1 0 0"=-2007 read"person 0 10 1 0 0"=-2009 read"person 0 0 0 0 0"=-2011 read"person 0 0 41 0 0"=-2011
            read"person 0 0 1 100 0"=-2013 read"person 0 0 1 0 41"=-2015 status(0)=0
            new read"person 0 0 1 0"=-2014 read"person 0 0 1 0;down"=-2014 read"person 0 0 1 0 down"=-2015 read"person 0 0 1 0 0 0"=-2017 read"person"=-2006
            new read"person;"=-2006 read"person x"=-2007 read"person 0 x"=-2009 read"person 0 0 ;"=-2011""");
        s.sentence(14, "climb X (one who isn't in it, on top, whether it stands or not; no more than MOST);", """
            six read"climb 3"=1 at(0)=3 read"climb 5"=1 at(1)=5 read"climb 5"=-2006 read"climb 3"=-2006 read"climb 6"=-2006 read"climb 0;climb 0"=-2014
            status(1)=2 read"climb 4;climb 0"=2 at(3)=0
            new six read"climb 5;climb 4"=2 stands()=0 status(1)=2 status(5)=0 read"climb 0"=1 status(1)=3 status(5)=0
            new read"climb 0"=-2006 read"person 0 0 1 0 0;climb 0"=2 status(1)=1
            new six tell(1, 2) read"climb 0;climb 1"=2 read"climb 2"=-2000 comesOut() read"climb 2"=1 at(1)=2
            new eight tell(1, 8) read"climb 7;climb 6;climb 5;climb 4;climb 3;climb 2;climb 1;climb 0"=8 status(1)=8 at(7)=0 read"climb 0"=-2000
            new read"climb"=-2005 read"climb;"=-2005 read"climb x"=-2006""");
        s.sentence(14, "down (nobody is in it then);", """
            read"down"=1 new four read"down"=1 status(1)=0 status(5)=0 status(0)=6 read"down 0"=-2005
            new four read"climb 1;down;climb 1;climb 4"=4 status(1)=2 at(0)=1 at(1)=4""");
        s.sentence(14, "wind N;", "read\"wind 0\"=1 status(2)=0 read\"wind 9\"=1 status(2)=9 read\"wind 10\"=-2005 status(2)=9 read\"wind\"=-2004 read\"wind down\"=-2005 read\"wind 2;wind 4\"=2 status(2)=4");
        s.sentence(14, "most N (no fewer than are in it);", """
            read"most 1"=1 status(3)=1 read"most 8"=1 status(3)=8 read"most 0"=-2005 read"most 9"=-2005 status(3)=8
            new four read"most 3"=-2005 read"most 4"=1 status(3)=4 read"down;most 1"=2 status(3)=1 read"climb 1;most 1"=2 read"most 2;climb 2;most 1"=-2020 read"most 0"=-2005
            read"most 2;climb 2"=2 status(1)=2 read"most 1"=-2005 read"most"=-2004 read"most;"=-2004""");
        s.sentence(14, "day N.", "read\"day 0\"=1 read\"day 999\"=1 status(4)=999 read\"day 1000\"=-2004 read\"day 007\"=1 status(4)=7 read\"day\"=-2003");
        s.sentence(14, "All comes to what there is, or nothing.", """
            four read"wind 5;most 8;day 9;person 0 0 1 0 0;down;climb 6;climb 6"=-2056 status(2)=3 status(3)=6 status(4)=0 status(0)=6 status(1)=4 at(0)=4
            read"wind 5;most 8;day 9;person 0 0 1 0 0;down;climb 6;climb 5"=7 status(2)=5 status(3)=8 status(4)=9 status(0)=7 status(1)=2 at(0)=6 at(1)=5
            new four image() read"wind 5;down;"=-2012 back()=1 status(1)=4 status(2)=3""");
    }

    private static void faults(Scenes s) {
        s.sentence(14, "The FAULT: the place of the first byte of the first TOKEN that can't stand there (also a NUMBER that may not be,", """
            read"wind"=-2004 read"  wynd 3"=-2002 read"wind   99"=-2007 read"down  wind"=-2006 read"wind ;"=-2005 read"day 0;day 1000"=-2010 read"climb 0 7"=-2006
            read"wind 3;most 9"=-2012 read"wind 99;wynd"=-2005""");
        s.sentence(14, "or has more than 3 digits;", """
            read"wind 003"=1 status(2)=3 read"wind 0003"=-2005 read"day 0000"=-2004 read"day 000"=1 read"day 099"=1 status(4)=99
            read"climb 99999999999"=-2006 read"wind 4294967299"=-2005 read"wind 18446744073709551619"=-2005 read"person 000 000 001 000 000"=1 read"person 0000 0 1 0 0"=-2007
            read"person 0 0 0001 0 0"=-2011""");
        s.sentence(14, "what there is no room for: its word;", """
            eight read"person 0 0 1 0 0"=-2000 read"wind 1; person 0 0 1 0 0"=-2008 status(2)=2
            new six tell(1, 1) climb(4) read"climb 0"=-2000 read"wind 1;climb 0"=-2007 status(2)=3 read"down;climb 0;climb 1"=-2013 read"down;climb 0"=2
            new full read"climb 0"=-2000""");
        s.sentence(14, "a byte that begins none);", """
            read"?"=-2000 read"down?"=-2004 read"wind 3 ?"=-2007 read"Down"=-2000 read"wind -3"=-2005 read"wind 3,day 1"=-2006
            feed(0) tower()=-2000 feed(255) tower()=-2000 feed"wind 3" feed(255) tower()=-2006 feed"wind" feed(200) feed"3" tower()=-2004""");
        s.sentence(14, "THE TAPE's size, if it ends too early.", """
            read""=-2000 read" "=-2001 read"wind"=-2004 read"wind "=-2005 read"down;"=-2005 read"down; "=-2006 read"person 0 0 1 0  "=-2016 new 250*feed(32) tower()=-2250""");
        s.sentence(14, "THE TAPE is a TOWER: how many STATEMENTS;", "read\"down\"=1 read\"down;wind 3;day 4\"=3 new six read\"climb 0;climb 1;climb 2;climb 3;climb 4\"=5");
        s.sentence(14, "-2000 less the FAULT (that is refused, too: BAD).", "tower()=-2000 status(12)=1 read\"down x\"=-2005 status(12)=2 read\"down\"=1 status(12)=2 status(13)=0 status(15)=0 status(16)=0");
        s.sentence(14, "THE TAPE is empty then, either way.", """
            read"wind 7"=1 status(6)=0 wipe()=0 tower()=-2000 read"wind 17"=-2005 status(6)=0 feed(100)=1 wipe()=1 read"wind 6"=1 status(2)=6""");
    }
}
