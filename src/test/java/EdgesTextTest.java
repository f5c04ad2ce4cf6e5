/** The boundary cases of promises 6 to 8, and of texts and faults in the terms: one test for each sentence. */
public final class EdgesTextTest {
    private static final Due due = new Due();
    private static final Twins twins = new Twins(due);
    private static final String LAW = "c3,2;", ROAD = "r0,1,4;", QUARREL = "p0,3,1;";
    /** 7 + 70 + 43 bytes: all that a tape holds. */
    private static final String LONGEST = "c07,09;" + "r00,06,09;".repeat(7)
        + "p00,01,06;" + "t06,09,00;" + "k00,1,06;" + "b6,9,0;" + "m0,1,6;";

    public static void main(String[] args) {
        feedNumbers();
        feedTakesEveryByte();
        feedUntilTheTapeIsFull();
        feedIsBadAheadOfFull();
        feedBehindAReading();

        parishesOfTheLaw();
        hayOfTheLaw();
        endsOfARoad();
        endsThatAreTheSame();
        gridOfARoad();
        roadsOfACounty();
        placeOfAQuarrel();
        sizeOfAQuarrel();
        brandOfAQuarrel();
        quarrelsOfACounty();
        sortsOfAQuarrel();
        figuresOfANumber();
        theEndIsAtHowManyBytes();
        anEmptyTape();
        aFullTape();
        bytesThatAreNoToken();
        theFirstTokenThatHasOne();
        ofOneTokenTheLeast();
        theTapeIsEmptyThen();
        allStaysByAFault();
        inPlaceOfTheOneBefore();

        faultBeforeOne();
        faultIsTheLatest();
        due.end();
    }

    private static void feedNumbers() {
        due.promise(6);
        for (Twins.Past past : new Twins.Past[] {Twins.BARE, Twins.UNTOLD, Twins.RICH}) {
            new Bounds(due, "feed", past, (x, n) -> x.feed(n[0]), 'a').number(0, 0, 255);
        }
    }

    private static void feedTakesEveryByte() {
        due.promise(6);
        GridQuarrels x = new GridQuarrels();
        for (int letter = 0; letter <= 255; letter++) {
            due.is("feed(" + letter + ")", x.feed(letter), letter % 120 + 1);
            due.is("count(7)", x.count(7), letter % 120 + 1);
            if (letter % 120 == 119) {
                x.county();
            }
        }
    }

    private static void feedUntilTheTapeIsFull() {
        due.promise(6);
        GridQuarrels x = new GridQuarrels();
        for (int n = 1; n <= 120; n++) {
            due.is("byte " + n, x.feed('c'), n);
        }
        due.is("byte 121", x.feed('c'), Due.FULL);
        due.is("byte 121 again", x.feed(0), Due.FULL);
        due.is("count(7)", x.count(7), 120);
        twins.refuses("feed('c') on a full tape", Twins.BRIM, y -> y.feed('c'), Due.FULL);
        twins.refuses("feed(0) on a full tape", Twins.BRIM, y -> y.feed(0), Due.FULL);
        twins.refuses("feed(255) on a full tape", Twins.BRIM, y -> y.feed(255), Due.FULL);
    }

    private static void feedIsBadAheadOfFull() {
        due.promise(6);
        twins.refuses("feed(-1) on a full tape", Twins.BRIM, x -> x.feed(-1), Due.BAD);
        twins.refuses("feed(256) on a full tape", Twins.BRIM, x -> x.feed(256), Due.BAD);
    }

    private static void feedBehindAReading() {
        due.promise(6);
        GridQuarrels x = Twins.made(Twins.BRIM);
        x.county();
        due.is("the first byte behind a full tape that was read", x.feed('c'), 1);
        x.county();
        due.is("the first byte behind one byte that was read", x.feed('c'), 1);
        x = Due.told(Twins.WIDE);
        due.is("the first byte behind a county", x.feed('c'), 1);
    }

    private static void right(String text, int quarrels) {
        GridQuarrels x = new GridQuarrels();
        due.is("county of " + text, Due.tell(x, text), quarrels);
        due.is("quarrels of " + text, x.count(3), quarrels);
        due.is("no fault of " + text, x.fault(), 0);
        due.is("the tape behind " + text, x.count(7), 0);
    }

    private static void wrong(String text, int place, int number) {
        GridQuarrels x = new GridQuarrels();
        due.is("county of " + text, Due.tell(x, text), -1000100 - place);
        due.is("fault of " + text, x.fault(), number);
        due.is("no county by " + text, x.count(1) + x.count(2) + x.count(3), 0);
        due.is("the tape behind " + text, x.count(7), 0);
    }

    private static void parishesOfTheLaw() {
        due.promise(7);
        for (int parishes = 0; parishes <= 99; parishes++) {
            String text = "c" + parishes + ",2;" + ROAD + QUARREL;
            if (parishes >= 2 && parishes <= 7) {
                right(text, 1);
                due.is("parishes of " + text, Due.told(text).count(1), parishes);
            } else {
                wrong(text, 1, 2);
            }
        }
        wrong("c100,2;" + ROAD + QUARREL, 1, 1);
        wrong("c,2;" + ROAD + QUARREL, 1, 1);
    }

    private static void hayOfTheLaw() {
        due.promise(7);
        for (int hay = 0; hay <= 99; hay++) {
            String text = "c3," + hay + ";" + ROAD + QUARREL;
            if (hay <= 9) {
                right(text, 1);
                due.is("hay of " + text, Due.told(text).parish(2, 0), hay);
            } else {
                wrong(text, 3, 2);
            }
        }
        wrong("c3,000;" + ROAD + QUARREL, 3, 1);
        wrong("c3,;" + ROAD + QUARREL, 3, 1);
    }

    private static void endsOfARoad() {
        due.promise(7);
        for (int parishes = 2; parishes <= 7; parishes++) {
            String law = "c" + parishes + ",0;";
            int last = parishes - 1;
            right(law + "r0," + last + ",0;" + "p0,1,0;", 1);
            right(law + "r" + last + ",0,0;" + "p0,1,0;", 1);
            wrong(law + "r0," + parishes + ",0;" + "p0,1,0;", 8, 2);
            wrong(law + "r" + parishes + ",0,0;" + "p0,1,0;", 6, 2);
            wrong(law + "r99,0,0;" + "p0,1,0;", 6, 2);
            wrong(law + "r0,99,0;" + "p0,1,0;", 8, 2);
            GridQuarrels x = Due.told(law + "r" + last + ",0,0;" + "p0,1,0;");
            due.is("ONE", x.road(0, 0), last);
            due.is("OTHER", x.road(0, 1), 0);
        }
    }

    private static void endsThatAreTheSame() {
        due.promise(7);
        for (int p = 0; p < 7; p++) {
            wrong("c7,0;r" + p + "," + p + ",0;" + QUARREL, 8, 2);
            wrong("c7,0;r" + p + ",0" + p + ",0;" + QUARREL, 8, 2);
            wrong("c7,0;" + ROAD + "r" + p + "," + p + ",0;" + QUARREL, 15, 2);
        }
        right("c7,0;" + "r0,1,0;r1,0,0;r0,1,0;" + QUARREL, 1);
    }

    private static void gridOfARoad() {
        due.promise(7);
        for (int grid = 0; grid <= 99; grid++) {
            String text = LAW + "r2,1," + grid + ";" + QUARREL;
            if (grid <= 9) {
                right(text, 1);
                due.is("grid of " + text, Due.told(text).road(0, 2), grid);
            } else {
                wrong(text, 10, 2);
            }
        }
        wrong(LAW + "r2,1,009;" + QUARREL, 10, 1);
        wrong(LAW + "r2,1,;" + QUARREL, 10, 1);
    }

    private static void roadsOfACounty() {
        due.promise(7);
        wrong(LAW + QUARREL, 5, 1);
        for (int roads = 1; roads <= 7; roads++) {
            String text = LAW + ROAD.repeat(roads) + QUARREL;
            right(text, 1);
            due.is("roads of " + text, Due.told(text).count(2), roads);
        }
        for (int roads = 8; roads <= 14; roads++) {
            wrong(LAW + ROAD.repeat(roads) + QUARREL, 5 + 49, 3);
        }
        wrong(LAW + ROAD.repeat(7) + "r", 5 + 49, 3);
        GridQuarrels x = Due.told(LAW + "r0,1,0;r0,1,1;r0,1,2;r0,1,3;r0,1,4;r0,1,5;r0,1,6;" + QUARREL);
        for (int r = 0; r < 7; r++) {
            due.is("the grid of road " + r, x.road(r, 2), r);
        }
    }

    private static void placeOfAQuarrel() {
        due.promise(7);
        for (int parishes = 2; parishes <= 7; parishes++) {
            String front = "c" + parishes + ",0;r0,1,0;";
            right(front + "p0,1,0;", 1);
            right(front + "p" + (parishes - 1) + ",1,0;", 1);
            wrong(front + "p" + parishes + ",1,0;", 13, 2);
            wrong(front + "p99,1,0;", 13, 2);
            wrong(front + "p000,1,0;", 13, 1);
            due.is("AT", Due.told(front + "p" + (parishes - 1) + ",1,0;").quarrel(0, 0), parishes - 1);
        }
    }

    private static void sizeOfAQuarrel() {
        due.promise(7);
        for (int size = 0; size <= 99; size++) {
            String text = LAW + ROAD + "m2," + size + ",1;";
            if (size >= 1 && size <= 9) {
                right(text, 1);
                due.is("size of " + text, Due.told(text).quarrel(0, 1), size);
            } else {
                wrong(text, 15, 2);
            }
        }
        wrong(LAW + ROAD + "m2,00,1;", 15, 2);
        wrong(LAW + ROAD + "m2,001,1;", 15, 1);
    }

    private static void brandOfAQuarrel() {
        due.promise(7);
        for (int parishes = 2; parishes <= 7; parishes++) {
            String front = "c" + parishes + ",0;r0,1,0;";
            right(front + "p0,1," + (parishes - 1) + ";", 1);
            wrong(front + "p0,1," + parishes + ";", 17, 2);
            wrong(front + "p0,1,99;", 17, 2);
            wrong(front + "p0,1,000;", 17, 1);
            due.is("BRAND", Due.told(front + "p0,1," + (parishes - 1) + ";").quarrel(0, 2), parishes - 1);
        }
    }

    private static void quarrelsOfACounty() {
        due.promise(7);
        wrong(LAW + ROAD, 12, 1);
        wrong(LAW + ROAD.repeat(7), 54, 1);
        for (int quarrels = 1; quarrels <= 5; quarrels++) {
            right(LAW + ROAD + QUARREL.repeat(quarrels), quarrels);
        }
        for (int quarrels = 6; quarrels <= 12; quarrels++) {
            wrong(LAW + ROAD + QUARREL.repeat(quarrels), 12 + 35, 3);
        }
        for (int i = 0; i < 5; i++) {
            wrong(LAW + ROAD + QUARREL.repeat(5) + "ptkbm".charAt(i), 12 + 35, 3);
        }
    }

    private static void sortsOfAQuarrel() {
        due.promise(7);
        for (char letter = 'a'; letter <= 'z'; letter++) {
            int kind = "ptkbm".indexOf(letter) + 1;
            String text = LAW + ROAD + letter + "0,3,1;";
            if (kind > 0) {
                right(text, 1);
                due.is("kind of " + text, Due.told(text).kind(0), kind);
            } else if (letter != 'r') {
                wrong(text, 12, 1);
            }
        }
        wrong(LAW + ROAD + "r0,2,1;", 19, 1);
        wrong(LAW + ROAD + "P0,3,1;", 12, 1);
    }

    private static void figuresOfANumber() {
        due.promise(7);
        right("c03,02;r00,01,04;p00,03,01;", 1);
        wrong("c003,02;r00,01,04;p00,03,01;", 1, 1);
        wrong("c03,002;r00,01,04;p00,03,01;", 4, 1);
        wrong("c03,02;r000,01,04;p00,03,01;", 8, 1);
        wrong("c03,02;r00,001,04;p00,03,01;", 11, 1);
        wrong("c03,02;r00,01,004;p00,03,01;", 14, 1);
        wrong("c03,02;r00,01,04;p000,03,01;", 18, 1);
        wrong("c03,02;r00,01,04;p00,003,01;", 21, 1);
        wrong("c03,02;r00,01,04;p00,03,001;", 24, 1);
        wrong("c" + "9".repeat(119), 1, 1);
        wrong("9".repeat(120), 0, 1);
        wrong("c4294967298,2;" + ROAD + QUARREL, 1, 1);
        wrong("c3,2;" + "r0,1,4;" + "p0,3,1;" + "000", 19, 1);
    }

    private static void theEndIsAtHowManyBytes() {
        due.promise(7);
        String text = "c5,2;r0,1,4;r04,3,00;p0,3,1;t02,7,04;";
        for (int bytes = 0; bytes < text.length(); bytes++) {
            if (bytes != 28) {
                wrong(text.substring(0, bytes), bytes, 1);
            }
        }
        right(text.substring(0, 28), 1);
        right(text, 2);
    }

    private static void anEmptyTape() {
        due.promise(7);
        wrong("", 0, 1);
        GridQuarrels x = Due.told(LAW + ROAD + QUARREL);
        due.is("county() again, of an empty tape", x.county(), -1000100);
        due.is("its fault", x.fault(), 1);
        due.is("the county stays", x.count(1), 3);
    }

    private static void aFullTape() {
        due.promise(7);
        due.is("so many bytes", LONGEST.length(), 120);
        right(LONGEST, 5);
        GridQuarrels x = Due.told(LONGEST);
        due.is("brand of the last", x.quarrel(4, 2), 6);
        due.is("the last road", x.road(6, 1), 6);
        wrong(LONGEST.substring(0, 119), 119, 1);
        // The last byte of 121 is refused, so that the end is at 120.
        wrong(LONGEST.replace("c07", "c7").replace("m0,1,6", "m00,01,6"), 120, 1);
        wrong("c".repeat(120), 1, 1);
    }

    private static void bytesThatAreNoToken() {
        due.promise(7);
        String text = LAW + ROAD + QUARREL;
        for (int letter = 0; letter <= 255; letter++) {
            boolean token = letter >= 'a' && letter <= 'z' || letter >= '0' && letter <= '9' || letter == ',' || letter == ';';
            for (int place = 0; place <= text.length() && !token; place++) {
                wrong(text.substring(0, place) + (char) letter + text.substring(place), place, 1);
            }
        }
    }

    private static void theFirstTokenThatHasOne() {
        due.promise(7);
        wrong("c9,99;" + "r9,9,99;" + "p9,0,9;", 1, 2);
        wrong("c3,99;" + "r9,9,99;" + "p9,0,9;", 3, 2);
        wrong("c3,9;" + "r9,9,99;" + "p9,0,9;", 6, 2);
        wrong("c3,9;" + "r2,2,99;" + "p9,0,9;", 8, 2);
        wrong("c3,9;" + "r2,1,99;" + "p9,0,9;", 10, 2);
        wrong("c3,9;" + "r2,1,9;" + "p9,0,9;", 13, 2);
        wrong("c3,9;" + "r2,1,9;" + "p2,0,9;", 15, 2);
        wrong("c3,9;" + "r2,1,9;" + "p2,1,9;", 17, 2);
        wrong("c8", 1, 2);
        wrong("c3,10", 3, 2);
        wrong("c3,2;r0,0", 8, 2);
        wrong("c3,2;?" + ROAD.repeat(9), 5, 1);
        wrong(LAW + ROAD.repeat(7) + "r?", 54, 3);
    }

    private static void ofOneTokenTheLeast() {
        due.promise(7);
        wrong("c100,2;", 1, 1);
        wrong("99", 0, 1);
        wrong(LAW + "99", 5, 1);
        wrong(LAW + ROAD + "99", 12, 1);
        wrong(LAW + ROAD.repeat(7) + QUARREL + "r", 61, 1);
        wrong(LAW + ROAD + QUARREL.repeat(5) + "r", 47, 1);
        wrong(LAW + ROAD + QUARREL.repeat(5) + "c", 47, 1);
        wrong(LAW + ROAD + QUARREL.repeat(5) + ";", 47, 1);
        wrong(LAW + ROAD.repeat(7) + "c", 54, 1);
        wrong(LAW + "rr", 6, 1);
        wrong(LAW + ROAD.repeat(6) + "rr", 48, 1);
        wrong(LAW + ROAD + QUARREL.repeat(4) + "pp", 41, 1);
    }

    private static void theTapeIsEmptyThen() {
        due.promise(7);
        GridQuarrels x = new GridQuarrels();
        Twins.feed(x, "c3,2;r0,");
        due.is("a fault", x.county(), -1000108);
        due.is("count(7)", x.count(7), 0);
        due.is("the rest by itself is none", Due.tell(x, "1,4;p0,3,1;"), -1000100);
        due.is("a whole text is one", Due.tell(x, LAW + ROAD + QUARREL), 1);
        due.is("count(7) behind it", x.count(7), 0);
        due.is("no text is left", x.county(), -1000100);
    }

    /** The fault is as it was ahead, and the tape is empty on both sides: so all is the same. */
    private static void allStaysByAFault() {
        due.promise(7);
        String[] texts = {"", "c8", LAW + ROAD.repeat(7) + "r"};
        for (String text : texts) {
            for (Twins.Past past : new Twins.Past[] {Twins.BARE, Twins.UNTOLD, Twins.RICH, Twins.BRIM}) {
                Twins.Past once = x -> {
                    past.of(x);
                    x.county();
                    Due.tell(x, text);
                };
                Twins.Past twice = x -> {
                    once.of(x);
                    Due.tell(x, text);
                };
                twins.alike("all stays by a fault of " + text, twice, once);
            }
        }
        GridQuarrels x = Twins.made(Twins.RICH);
        x.feed('x');
        due.is("a whole text and a letter more", x.county(), -1000100 - Twins.SMALL.length());
        due.is("its fault", x.fault(), 1);
        due.is("parishes stay", x.count(1), 7);
        due.is("roads stay", x.count(2), 7);
        due.is("quarrels stay", x.count(3), 5);
        due.is("YEAR stays", x.count(4), 3);
        due.is("acts stay", x.count(6), 8);
    }

    private static void inPlaceOfTheOneBefore() {
        due.promise(7);
        GridQuarrels x = Twins.made(Twins.BRIM);
        x.county();
        due.is("YEAR ahead of it", x.count(4), 999);
        due.is("acts ahead of it", x.count(6), 24);
        due.is("another county", Due.tell(x, Twins.SMALL), 2);
        int[] counts = {8, 2, 1, 2, 0, 8, 0, 0};
        for (int what = 0; what < 8; what++) {
            due.is("count(" + what + ")", x.count(what), counts[what]);
        }
        due.is("no act can be undone", x.undo(), Due.STATE);
        due.is("a year of the other one", x.years(1), 2);
        due.is("one act", x.count(6), 1);
        due.is("it is undone", x.undo(), 0);
        due.is("but none before it", x.undo(), Due.STATE);
        x = Due.told(Twins.WIDE);
        due.is("fewer of all", Due.tell(x, "c2,0;r0,1,0;m0,1,0;"), 1);
        due.is("no parish 2", x.parish(2, 0), Due.BAD);
        due.is("no road 1", x.road(1, 0), Due.BAD);
        due.is("no quarrel 1", x.quarrel(1, 0), Due.BAD);
        due.is("more of all again", Due.tell(x, Twins.WIDE), 5);
        due.is("parish 6 is as told", x.parish(6, 0), 0);
        due.is("road 6 is as told", x.road(6, 2), 5);
        due.is("quarrel 4 is as told", x.quarrel(4, 1), 2);
    }

    private static void faultBeforeOne() {
        due.promise(8);
        twins.tells("fault() of a new object", Twins.BARE, x -> x.fault(), 0);
        due.is("fault() behind a whole text", Due.told(LAW + ROAD + QUARREL).fault(), 0);
    }

    private static void faultIsTheLatest() {
        due.promise(8);
        String[] texts = {"", "c8", LAW + ROAD.repeat(8)};
        for (int first = 1; first <= 3; first++) {
            for (int then = 1; then <= 3; then++) {
                GridQuarrels x = new GridQuarrels();
                Due.tell(x, texts[first - 1]);
                due.is("a first one", x.fault(), first);
                due.is("a whole text", Due.tell(x, LAW + ROAD + QUARREL), 1);
                due.is("the latest is yet that", x.fault(), first);
                Due.tell(x, texts[then - 1]);
                due.is("another one", x.fault(), then);
            }
        }
        twins.tells("fault()", Twins.RICH, x -> x.fault(), 2);
        twins.refuses("a refused feed leaves it", Twins.RICH, x -> x.feed(256), Due.BAD);
    }
}
