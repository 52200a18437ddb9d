/** Promises 1 to 8: a new object, rows and people in shelves. */
final class ShelfSentences {
    private ShelfSentences() {
    }

    static void tell(Scenes s) {
        newObject(s);
        rows(s);
        elements(s);
        copies(s);
        shelves(s);
        sayings(s);
    }

    private static void newObject(Scenes s) {
        s.sentence(1, "Nobody", "status(0)=0 personOf(0, 0)=BAD new ofKind(0)=0 ofKind(5)=0 who(0)=0 top()=NONE at(0)=NONE");
        s.sentence(1, "SHELVES hold NOTHING", """
            holds(0)=NONE holds(1)=NONE holds(2)=NONE holds(3)=NONE holds(4)=NONE holds(5)=NONE holds(6)=NONE holds(7)=NONE
            status(8)=0 element(0, 0)=0 set(7, 0, 1)=NOTHING""");
        s.sentence(1, "; THE TAPE is empty.", "status(6)=0 wipe()=0 tower()=-2000");
        s.sentence(1, "WIND (0 to 9; 2 at first)", "status(2)=2 tell(0, 5)=2 status(2)=5");
        s.sentence(1, "MOST (1 to 8: how many courses; 5 at first)", "status(3)=5 tell(1, 6)=5 status(3)=6");
        s.sentence(1, "DAY (0 to 999; 0 at first)", "status(4)=0 tell(2, 7)=0 status(4)=7");
        s.sentence(1, "FALLEN (how often it fell in truth; 0 at first)", "status(5)=0");
        s.sentence(1, "Some of them are in THE TOWER, one above the other, from the FOOT on (nobody at first).", """
            status(1)=0 height()=0 mass()=0
            new six status(1)=0 at(0)=NONE at(7)=NONE who(0)=0 personOf(0, 8)=NONE climb(3)=1 at(0)=3 at(1)=NONE climb(5)=1 at(1)=5
            personOf(3, 8)=0 personOf(5, 8)=1""");
        s.sentence(1, "SEED (1 at first)", "status(7)=1 seed(9)=1");
        s.sentence(1, "nothing changes but how many there were",
                "status(12)=0 status(13)=0 status(14)=0 status(15)=0 status(16)=0 back()=STUCK status(15)=1");
    }

    private static void rows(Scenes s) {
        s.sentence(2, "SHELF s holds a new ROW: 1.", """
            row(0, 0, 1)=1 holds(0)=0
            new row(0, 3, 3) set(0, 2, 9) row(0, 3, 3)=1 element(0, 2)=0      # a new one, not the old one
            new row(0, 3, 3) set(0, 0, 9) row(0, 1, 1)=1 holds(0)=1 element(0, 0)=0 set(0, 1, 1)=BAD
            new six show(3, 5) row(3, 2, 2)=1 holds(3)=2 status(8)=1           # instead of one of the people
            new row(0, 0, 40) row(1, 1, 40) row(2, 2, 40) row(3, 3, 40) row(4, 4, 40) row(5, 0, 40) row(6, 1, 40)
            row(7, 2, 40)=1 status(8)=8 row(7, 3, 40)=1 status(8)=8            # everything full""");
        s.sentence(2, "SHELVES 0 to 7", "row(0, 0, 0)=1 row(7, 0, 0)=1 row(-1, 0, 0)=BAD row(8, 0, 0)=BAD row(MIN, 0, 0)=BAD row(MAX, 0, 0)=BAD");
        s.sentence(2, "A ROW has a SORT (0 bytes, 1 shorts, 2 ints, 3 longs, 4 booleans)", """
            row(0, 0, 1)=1 holds(0)=0 row(0, 1, 1)=1 holds(0)=1 row(0, 2, 1)=1 holds(0)=2 row(0, 3, 1)=1 holds(0)=3 row(0, 4, 1)=1 holds(0)=4
            row(0, -1, 1)=BAD row(0, 5, 1)=BAD row(0, MIN, 1)=BAD row(0, MAX, 1)=BAD holds(0)=4""");
        s.sentence(2, "and 0 to 40 elements (0, or not so, at first)", """
            row(0, 2, 0)=1 holds(0)=2 set(0, 0, 1)=BAD judge(0, 0)=NONE judge(0, 1)=BAD
            row(0, 2, 40)=1 element(0, 0)=0 element(0, 39)=0 set(0, 39, 1)=1 set(0, 40, 1)=BAD judge(0, 40)=0
            row(0, 2, -1)=BAD row(0, 2, 41)=BAD row(0, 2, MIN)=BAD row(0, 2, MAX)=BAD element(0, 39)=1
            new row(1, 0, 2) row(2, 1, 2) row(3, 3, 2) row(4, 4, 2) element(1, 1)=0 element(2, 1)=0 element(3, 1)=0 element(4, 1)=0""");
        s.sentence(2, "BAD.", """
            row(0, 3, 2) set(0, 1, 7) row(0, 3, 41)=BAD row(0, 5, 2)=BAD row(8, 5, -1)=BAD status(12)=3 holds(0)=3 element(0, 1)=7 set(0, 2, 1)=BAD""");
    }

    private static void elements(Scenes s) {
        s.sentence(3, "Element i of the ROW in SHELF s becomes v: 1.", """
            row(0, 3, 3) row(7, 3, 40) set(0, 0, 5)=1 set(0, 2, 6)=1 element(0, 0)=5 element(0, 1)=0 element(0, 2)=6
            set(7, 39, -1)=1 element(7, 39)=-1 set(0, 0, 0)=1 element(0, 0)=0""");
        s.sentence(3, "what is put in keeps its lowest bits (of booleans: whether it is not 0); told they are numbers (1, 0).", """
            row(0, 0, 1) set(0, 0, 127)=1 element(0, 0)=127 set(0, 0, 128)=1 element(0, 0)=-128 set(0, 0, 255)=1 element(0, 0)=-1
            set(0, 0, 256)=1 element(0, 0)=0 set(0, 0, -128)=1 element(0, 0)=-128 set(0, 0, -129)=1 element(0, 0)=127
            set(0, 0, LMIN)=1 element(0, 0)=0 set(0, 0, LMAX)=1 element(0, 0)=-1
            new row(0, 1, 1) set(0, 0, 32767)=1 element(0, 0)=32767 set(0, 0, 32768)=1 element(0, 0)=-32768 set(0, 0, 65535)=1 element(0, 0)=-1
            set(0, 0, 65536)=1 element(0, 0)=0 set(0, 0, -32768)=1 element(0, 0)=-32768 set(0, 0, -32769)=1 element(0, 0)=32767
            new row(0, 2, 1) set(0, 0, 2147483647)=1 element(0, 0)=2147483647 set(0, 0, 2147483648)=1 element(0, 0)=-2147483648
            set(0, 0, 4294967295)=1 element(0, 0)=-1 set(0, 0, 4294967296)=1 element(0, 0)=0 set(0, 0, -2147483649)=1 element(0, 0)=2147483647
            new row(0, 3, 1) set(0, 0, LMAX)=1 element(0, 0)=LMAX set(0, 0, LMIN)=1 element(0, 0)=LMIN
            new row(0, 4, 1) set(0, 0, 1)=1 element(0, 0)=1 set(0, 0, 0)=1 element(0, 0)=0 set(0, 0, -1)=1 element(0, 0)=1
            set(0, 0, 256)=1 element(0, 0)=1 set(0, 0, 4294967296)=1 element(0, 0)=1 set(0, 0, LMIN)=1 element(0, 0)=1 set(0, 0, 2)=1 element(0, 0)=1""");
        s.sentence(3, "BAD SHELF; OTHER; NOTHING; BAD i.", """
            row(0, 2, 3) six show(1, 0)
            set(-1, 0, 0)=BAD set(8, 0, 0)=BAD set(MIN, 0, 0)=BAD set(MAX, 0, 0)=BAD set(8, -1, 0)=BAD
            set(1, 0, 0)=OTHER set(1, -1, 0)=OTHER set(1, 40, 0)=OTHER
            set(2, 0, 0)=NOTHING set(7, -1, 0)=NOTHING
            set(0, -1, 5)=BAD set(0, 3, 5)=BAD set(0, MIN, 5)=BAD set(0, MAX, 5)=BAD set(0, 0, 5)=1 set(0, 2, 5)=1""");
        s.sentence(5, "Element i of the ROW; 0: none, no ROW (nothing is refused).", """
            row(0, 3, 2) set(0, 0, 8) set(0, 1, LMIN) six show(2, 5)
            element(0, 0)=8 element(0, 1)=LMIN element(0, 2)=0 element(0, -1)=0 element(0, MIN)=0 element(0, MAX)=0
            element(1, 0)=0 element(2, 0)=0 element(8, 0)=0 element(-1, 0)=0 element(MIN, 0)=0 element(MAX, MAX)=0
            row(3, 1, 0) element(3, 0)=0 row(7, 3, 40) set(7, 39, 4) element(7, 39)=4 element(7, 40)=0
            status(12)=0 status(13)=0 status(14)=0""");
    }

    private static void copies(Scenes s) {
        s.scene("five", "row(0, 3, 5) set(0, 0, 1) set(0, 1, 2) set(0, 2, 3) set(0, 3, 4) set(0, 4, 5)");
        s.sentence(4, "n elements of the ROW in SHELF p from place i on come to places j on of that in q", """
            five row(1, 3, 3) copy(0, 1, 1, 0, 3)=3 element(1, 0)=2 element(1, 1)=3 element(1, 2)=4
            copy(0, 1, 4, 2, 1)=1 element(1, 1)=3 element(1, 2)=5 copy(0, 1, 0, 0, 0)=0 element(1, 0)=2
            new five row(7, 3, 5) copy(0, 7, 0, 0, 5)=5 element(7, 0)=1 element(7, 4)=5      # all of it
            new row(0, 0, 40) row(1, 0, 40) set(0, 39, 3) copy(0, 1, 0, 0, 40)=40 element(1, 39)=3""");
        s.sentence(4, "(as they were): n.", """
            five copy(0, 0, 0, 1, 4)=4 element(0, 0)=1 element(0, 1)=1 element(0, 2)=2 element(0, 3)=3 element(0, 4)=4
            new five copy(0, 0, 1, 0, 4)=4 element(0, 0)=2 element(0, 1)=3 element(0, 2)=4 element(0, 3)=5 element(0, 4)=5
            new five copy(0, 0, 0, 0, 5)=5 element(0, 0)=1 element(0, 4)=5""");
        s.sentence(4, "BAD SHELVES; OTHER (also ROWS of two SORTS, if both hold something); NOTHING; BAD the others.", """
            five row(1, 3, 2) row(2, 2, 5) six show(4, 0)
            copy(-1, 0, 0, 0, 1)=BAD copy(8, 0, 0, 0, 1)=BAD copy(0, -1, 0, 0, 1)=BAD copy(0, 8, 0, 0, 1)=BAD copy(MIN, 0, 0, 0, 1)=BAD copy(0, MAX, 0, 0, 1)=BAD
            copy(4, 8, 0, 0, 1)=BAD copy(8, 4, 0, 0, 1)=BAD copy(3, 8, 0, 0, 1)=BAD
            copy(4, 0, 0, 0, 1)=OTHER copy(0, 4, 0, 0, 1)=OTHER copy(4, 3, 0, 0, 1)=OTHER copy(3, 4, 0, 0, 1)=OTHER copy(4, 4, 0, 0, 1)=OTHER
            copy(0, 2, 0, 0, 1)=OTHER copy(2, 0, 0, 0, 1)=OTHER copy(0, 2, -1, 0, 1)=OTHER copy(0, 4, 0, 0, 99)=OTHER
            copy(0, 3, 0, 0, 1)=NOTHING copy(3, 0, 0, 0, 1)=NOTHING copy(2, 3, 0, 0, 1)=NOTHING copy(3, 3, 0, 0, 0)=NOTHING copy(0, 3, -1, 0, 99)=NOTHING
            new five row(1, 3, 2)
            copy(0, 1, -1, 0, 1)=BAD copy(0, 1, 0, -1, 1)=BAD copy(0, 1, 0, 0, -1)=BAD copy(0, 1, 0, 0, 3)=BAD copy(0, 1, 4, 0, 2)=BAD copy(0, 1, 5, 0, 1)=BAD
            copy(0, 1, 0, 1, 2)=BAD copy(0, 1, 0, 2, 1)=BAD copy(1, 0, 0, 0, 3)=BAD copy(1, 0, 0, 4, 2)=BAD
            copy(0, 1, 3, 0, 2)=2 copy(0, 1, 0, 1, 1)=1 copy(1, 0, 0, 3, 2)=2
            new five row(1, 3, 2)                                              # a place and a number that wrap around
            copy(0, 1, MAX, 0, 1)=BAD copy(0, 1, 0, MAX, 1)=BAD copy(0, 1, 0, 0, MAX)=BAD copy(0, 1, MAX, MAX, MAX)=BAD copy(0, 1, 1, 1, MAX)=BAD
            copy(0, 1, MIN, 0, 1)=BAD copy(0, 1, 0, MIN, 1)=BAD copy(0, 1, 0, 0, MIN)=BAD copy(0, 1, MIN, MIN, MIN)=BAD element(1, 0)=0 element(0, 0)=1""");
    }

    private static void shelves(Scenes s) {
        s.sentence(6, "SHELVES 0 to 7 hold NOTHING (at first), a ROW, or one of the PEOPLE.", """
            eight holds(0)=NONE row(0, 1, 2) holds(0)=1 show(0, 7)=1 holds(0)=17 show(0, NONE)=1 holds(0)=NONE
            row(7, 4, 0) holds(7)=4 show(7, 0)=1 holds(7)=10 row(7, 0, 0)=1 holds(7)=0 show(7, NONE)=1 holds(7)=NONE""");
        s.sentence(6, "What SHELF s holds: NONE NOTHING, no SHELF; 0 to 4 a ROW by its SORT; 10 and the number of one of the PEOPLE.", """
            eight row(0, 0, 0) row(1, 1, 1) row(2, 2, 2) row(3, 3, 3) row(4, 4, 4) show(5, 0) show(7, 7)
            holds(0)=0 holds(1)=1 holds(2)=2 holds(3)=3 holds(4)=4 holds(5)=10 holds(6)=NONE holds(7)=17
            holds(-1)=NONE holds(8)=NONE holds(MIN)=NONE holds(MAX)=NONE status(12)=0 status(14)=0""");
        s.sentence(7, "SHELF s holds one of the PEOPLE, or NOTHING (person NONE): 1.", """
            show(0, NONE)=1 holds(0)=NONE new six show(0, 0)=1 holds(0)=10 show(7, 5)=1 holds(7)=15 show(1, 5)=1 holds(1)=15 status(8)=3
            show(7, NONE)=1 holds(7)=NONE status(8)=2 row(2, 2, 2) show(2, NONE)=1 holds(2)=NONE element(2, 0)=0 row(2, 2, 2) show(2, 1)=1 holds(2)=11
            climb(3) show(2, 3)=1 climb(0) show(3, 0)=1 comesOut() holds(2)=13""");
        s.sentence(7, "BAD.", """
            show(0, 0)=BAD new six row(1, 1, 1) show(0, 5)=1 show(0, 6)=BAD show(1, 6)=BAD show(0, -2)=BAD show(0, MIN)=BAD show(0, MAX)=BAD
            show(-1, 0)=BAD show(8, 0)=BAD show(8, NONE)=BAD show(-1, NONE)=BAD show(MIN, 0)=BAD show(MAX, 0)=BAD holds(0)=15 holds(1)=1
            new eight show(7, 7)=1 show(7, 8)=BAD""");
    }

    private static void sayings(Scenes s) {
        s.scene("shown", "six show(0, 0) show(1, 1) show(2, 2) show(3, 3) show(4, 4) show(5, 5)");
        s.sentence(8, "What the one in SHELF s, taken for one of a KIND, says: PERSON his NERVE; TALL, STRING his TALLNESS; STRONG, WIDOW what he BEARS; "
                + "CHILD its MASS; each by his own KIND.", """
            shown says(0, 0)=9 says(1, 0)=12 says(2, 0)=4 says(3, 0)=20 says(4, 0)=8 says(5, 0)=30
            says(1, 1)=3 says(3, 1)=5 says(3, 3)=5 says(2, 2)=65 says(4, 2)=84 says(4, 4)=84 says(5, 5)=4
            give(4, 1, 99) says(4, 2)=202 give(5, 0, 40) says(5, 5)=20 give(0, 2, 0) says(0, 0)=0 give(0, 2, 40) says(0, 0)=40 show(7, 4) says(7, 4)=202""");
        s.sentence(8, "0 PERSON; 1 TALL, 2 STRONG, 5 CHILD, each under PERSON; 3 STRING, under TALL; 4 WIDOW, under STRONG", """
            shown says(0, 1)=OTHER says(0, 2)=OTHER says(0, 3)=OTHER says(0, 4)=OTHER says(0, 5)=OTHER
            says(1, 2)=OTHER says(1, 3)=OTHER says(1, 4)=OTHER says(1, 5)=OTHER
            says(2, 1)=OTHER says(2, 3)=OTHER says(2, 4)=OTHER says(2, 5)=OTHER
            says(3, 2)=OTHER says(3, 4)=OTHER says(3, 5)=OTHER
            says(4, 1)=OTHER says(4, 3)=OTHER says(4, 5)=OTHER
            says(5, 1)=OTHER says(5, 2)=OTHER says(5, 3)=OTHER says(5, 4)=OTHER""");
        s.sentence(8, "BAD SHELF, KIND; OTHER (also if he is of no such KIND nor of one under it); NOTHING.", """
            shown row(6, 0, 1)
            says(-1, 0)=BAD says(8, 0)=BAD says(MIN, 0)=BAD says(MAX, 0)=BAD says(0, -1)=BAD says(0, 6)=BAD says(0, MIN)=BAD says(0, MAX)=BAD
            says(6, -1)=BAD says(6, 6)=BAD says(7, 6)=BAD says(7, -1)=BAD
            says(6, 0)=OTHER says(6, 5)=OTHER says(0, 5)=OTHER says(7, 0)=NOTHING says(7, 5)=NOTHING""");
    }
}
