/** Edges of promise 3, and of A TEXT and its FAULTS. */
final class TextEdges {
    private static final int UNDUE = 1;
    private static final int OUT_OF_BOUNDS = 2;
    private static final int NO_SPLIT = 3;
    private static final int TOO_MANY = 4;
    /** Six SPLITS of 5, eight of 4, as all is at first. */
    private static final String SIX = "005 014 023 032 041 050";
    private static final String[] EIGHT = {"004", "013", "022", "031", "040", "103", "112", "121"};

    private TextEdges() {
    }

    static void all() {
        tape();
        emptied();
        stays();
        signs();
        numbers();
        lines();
        shortLines();
        lists();
        anew();
        order();
        ends();
        bounds();
        noSplit();
        tooMany();
    }

    private static int faultOf(int place, int kind) {
        return -2 - (8 * place + kind);
    }

    /** A FAULT behind which all but THE TAPE is as it was. */
    private static void fault(String text, int place, int kind) {
        Edge.refused("'" + text + "'", faultOf(place, kind), () -> Edge.laden("ties 1", ""), x -> Due.tell(x, text));
    }

    private static void fine(String text, int lines) {
        Due.is("'" + text + "'", Due.tell(new SecretForces(), text), lines);
    }

    private static String blanks(int many) {
        return " ".repeat(many);
    }

    private static void tape() {
        Doc.says(Doc.TERMS, "THE TAPE has 300 bytes");
        SecretForces x = new SecretForces();
        Due.is("300 of them", Due.tell(x, blanks(294) + "ties 2"), 1);
        Due.is("the last one too", x.count(3), 2);
        Due.is("all blank", Due.tell(x, blanks(300)), faultOf(300, UNDUE));
        Due.is("300 can be fed", Due.put(x, blanks(300)), 300);
        Due.is("not 320", x.feed(0, 0, 0, 0, 0), -1);

        Doc.says(3, "The first n bytes of THE TAPE");
        for (int n = 6; n <= 20; n++) {
            x = new SecretForces();
            Due.put(x, "ties 2              ");
            Due.is("text(" + n + ")", x.text(n), 1);
            Due.is("ties by " + n, x.count(3), 2);
        }
        x = new SecretForces();
        Due.put(x, "forces 1 2; ties 1 !");
        Due.is("all but the last one", x.text(19), 2);
        Due.put(x, "ties 1; ties 2");
        Due.is("what stands behind is nothing", x.text(6), 1);
        Due.is("ties", x.count(3), 1);
        Due.is("0 of them", x.text(0), faultOf(0, UNDUE));
        Due.put(x, "ties 2");
        Due.is("0 of 20", x.text(0), faultOf(0, UNDUE));

        Doc.says(3, "it has not so many");
        Edge.refused("text(21) of 20", -1, y -> y.text(21));
        Edge.refused("text of the most", -1, y -> y.text(Edge.MOST));
        Edge.refused("text(1) of none", -1, SecretForces::new, y -> y.text(1));
        Edge.refused("text(301) of 300", -1, TextEdges::fullTape, y -> y.text(301));
        Due.is("text(300) of 300", fullTape().text(300), 1);

        Doc.says(3, "n is below 0");
        Edge.refused("text(-1)", -1, y -> y.text(-1));
        Edge.refused("text of the least", -1, y -> y.text(Edge.LEAST));
        Edge.refused("text(-1) of none", -1, SecretForces::new, y -> y.text(-1));

        Doc.says(3, "(THE TAPE stays)");
        x = new SecretForces();
        Due.put(x, "ties 1");
        x.text(21);
        x.text(-1);
        Due.is("bytes", x.count(12), 20);
        Due.is("the next ones come behind", Due.put(x, ";ties 2"), 40);
        Due.is("both", x.text(27), 2);
        Due.is("ties", x.count(3), 2);
    }

    private static SecretForces fullTape() {
        SecretForces x = new SecretForces();
        Due.put(x, blanks(294) + "ties 1");
        return x;
    }

    private static void emptied() {
        Doc.says(3, "(it is empty then)");
        SecretForces x = new SecretForces();
        Due.put(x, "ties 2; ties 1");
        x.text(6);
        Due.is("behind a text", x.count(12), 0);
        Due.is("nothing is left of it", x.text(1), -1);
        Due.put(x, "ties 3; ties 1");
        x.text(6);
        Due.is("behind a fault", x.count(12), 0);
        Due.is("the next ones come first", Due.tell(x, "ties 1"), 1);

        Doc.says(3, "a FAULT (all else stays)");
        fault("fields 2 3 1; forces 3 3; ties 2; book 0 003; plan 1 030 weight 1; ties 3", 72, OUT_OF_BOUNDS);
        fault("book 0 " + SIX + "; plan 0 005 weight 9; book 1 400; plan 1 400 weight 5;", 85, UNDUE);
        fault("ties 2; forces 8 1", 15, OUT_OF_BOUNDS);
        fault("forces 1 8", 9, OUT_OF_BOUNDS);
        fault("fields 1 1 9", 11, OUT_OF_BOUNDS);
        fault("book 0 014 015", 11, NO_SPLIT);
        fault("plan 1 022 weight 3 040 weight 100", 31, OUT_OF_BOUNDS);

        Doc.says(3, "-2 less (8 * place + kind)");
        Due.is("the least place", Due.tell(new SecretForces(), "!"), -3);
        Due.is("place 1", Due.tell(new SecretForces(), " !"), -11);
        Due.is("place 0 cannot be of another kind; kind 2 at 5", Due.tell(new SecretForces(), "ties 3"), -44);
        Due.is("kind 3 at 7", Due.tell(new SecretForces(), "book 0 004"), -61);
        Due.is("kind 4 at 15", Due.tell(new SecretForces(), "fields 1 1 1 1 1"), -126);
        Due.is("the last place", Due.tell(new SecretForces(), blanks(299) + "!"), -2 - 2393);
        Due.is("the end of 300", Due.tell(new SecretForces(), blanks(300)), -2 - 2401);
    }

    private static void stays() {
        Doc.says(3, "what it does not tell stays");
        SecretForces x = Edge.laden();
        x.text(6);
        Due.is("fields", x.count(0) * 100 + x.count(20) * 10 + x.count(21), 212);
        Due.is("forces", x.count(1) * 10 + x.count(2), 32);
        Due.is("books", x.count(5) * 10 + x.count(6), 22);
        Due.is("plans", x.count(7) * 10 + x.count(8), 22);
        Due.is("ties are told", x.count(3), 2);
        String books = "3 0 2 0 0*2 3*3 0*2 2*3";
        Due.same("books and plans as they were", listed(x), books);
        x.ties(1);
        Due.tell(x, "ties 0");
        Due.same("as they were by a second text", listed(x), books);
        x.ties(2);
        Due.tell(x, "book 0 03");
        Due.is("ties told one by one stay", x.count(3), 2);
        Due.tell(x, "forces 1 2");
        Due.is("ties stay by forces", x.count(3), 2);
        Due.is("fields stay by forces", x.count(20) * 10 + x.count(21), 12);
        x.forces(1, 7);
        x.field(5);
        Due.tell(x, "ties 1");
        Due.is("fields told one by one stay", x.count(0) * 10 + x.count(22), 35);
        Due.is("forces told one by one stay", x.count(1) * 10 + x.count(2), 17);
        x = Edge.laden();
        x.text(6);

        Doc.says(3, "NOTES are none, turns are begun anew; STATE stays");
        Due.is("notes", x.count(9) + x.count(10), 0);
        Edge.nothingSeen("text", x);
        for (int side = 0; side < 2; side++) {
            Due.is("turns of side " + side, x.entry(side, 0, 2) + x.entry(side, 1, 2), 0);
            // weights 2 and 3: the second one is first
            Due.is("the first turn of side " + side, x.draw(side, true), x.splits(side) - 1);
            Due.is("the second turn of side " + side, x.draw(side, true), 0);
        }
        Due.is("the state", x.count(11), -12345);

        Doc.says(3, "all that it tells is so");
        x = Edge.laden();
        x.text(0);
        Due.is("all kinds of lines", Due.tell(x, "fields 3 1 2 2; forces 7 0; ties 0; book 0 0007 7000; book 1 0000;"
            + " plan 0 1123 weight 1"), 6);
        int[] want = {4, 7, 0, 0, 8, 2, 1, 1, 0, 0, 0, -12345, 0};
        for (int what = 0; what < want.length; what++) {
            Due.is("count(" + what + ")", x.count(what), want[what]);
        }
        Due.is("splits are those of now", x.splits(0) * 10 + x.splits(1), 1201);
        Due.is("the book", x.book(0, 0) * 1000 + x.book(0, 1), 119);
        Due.is("the plan", x.split(0, x.entry(0, 0, 0)), 01123);
    }

    /** What BOOKS and PLANS of two hold. */
    private static String listed(SecretForces x) {
        StringBuilder b = new StringBuilder();
        for (int side = 0; side < 2; side++) {
            b.append(x.book(side, 0)).append(' ').append(x.book(side, 1)).append(' ');
        }
        for (int side = 0; side < 2; side++) {
            for (int k = 0; k < 2; k++) {
                b.append(x.entry(side, k, 0)).append('*').append(x.entry(side, k, 1)).append(' ');
            }
        }
        return b.toString().trim();
    }

    /** Each byte there is, between a word and a number. */
    private static void signs() {
        Doc.says(Doc.TERMS, "blanks, 32, 10, part TOKENS and mean nothing else");
        for (int sign = 0; sign < 256; sign++) {
            char c = (char) sign;
            int want = faultOf(4, UNDUE);
            if (c == 32 || c == 10 || c == '0') {
                want = 1;
            } else if (c >= '1' && c <= '9') {
                want = faultOf(4, OUT_OF_BOUNDS);
            } else if (c >= 'a' && c <= 'z') {
                want = faultOf(0, UNDUE);
            }
            Due.is("ties, byte " + sign + ", 1", Due.tell(new SecretForces(), "ties" + c + "1"), want);
        }
        fine("ties1", 1);
        fine("\n ties \n\n 1 \n", 1);
        fine(" ties 1 ;\nties 2 ; ties 0\n", 3);
        fault("ti es 1", 0, UNDUE);
        fault("ties 1 1", 7, UNDUE);
        fine("forces 1 2", 1);
        fault("forces 12", 7, OUT_OF_BOUNDS);

        Doc.says(Doc.TERMS, "words of small letters");
        fault("Ties 1", 0, UNDUE);
        fault("tieS 1", 0, UNDUE);
        fault("tie{ 1", 0, UNDUE);
        fault("ties` 1", 4, UNDUE);
        fault("tiesz 1", 0, UNDUE);
        fault("aties 1", 0, UNDUE);
        fault("tie 1", 0, UNDUE);
        fault("tiesties 1", 0, UNDUE);
        for (String line : new String[] {"fields 1", "forces 1 1", "ties 1", "book 0 005", "plan 0 005 weight 1"}) {
            fine(line, 1);
            fault((char) (line.charAt(0) + 1) + line.substring(1), 0, UNDUE);
            fault(line.substring(1), 0, UNDUE);
        }
        fault("plan 0 005 xeight 1", 11, UNDUE);
        fault("plan 0 005 weighs 1", 11, UNDUE);
        fault("plan 0 005 weigh 1", 11, UNDUE);
        fault("plan 0 005 weights 1", 11, UNDUE);
        fault("a", 0, UNDUE);
        fault("z", 0, UNDUE);
    }

    private static void numbers() {
        Doc.says(Doc.TERMS, "NUMBERS of 1 to 4 digits that stand together");
        fine("ties 1", 1);
        fine("ties 01", 1);
        fine("ties 001", 1);
        fine("ties 0001", 1);
        fault("ties 00001", 5, UNDUE);
        fault("ties 000001", 5, UNDUE);
        fault("ties 00000000000000000000000000000000000001", 5, UNDUE);
        fault("ties 9999", 5, OUT_OF_BOUNDS);
        fault("ties 99999", 5, UNDUE);
        // 2 to the 32nd, more than an int has
        fault("ties 4294967296", 5, UNDUE);
        fault("ties 0 1", 7, UNDUE);
        fault("plan 0 005weight00001", 16, UNDUE);
        fine("plan 0 005weight0099", 1);
        fine("forces 0000 0007", 1);
        fine("fields 0001 007", 1);
        fine("book 0001 004", 1);
    }

    private static void lines() {
        Doc.says(Doc.TERMS, "; alone");
        fine("ties 1;ties 1", 2);
        fine("ties 1 ; ties 1", 2);
        fault("ties 1:ties 1", 6, UNDUE);
        fault("forces 1;2", 8, UNDUE);
        fault("fie;lds 1", 0, UNDUE);
        fault("book 0 005;014", 11, UNDUE);

        Doc.says(Doc.TERMS, "LINE { ; LINE }");
        fault("", 0, UNDUE);
        fault(" \n ", 3, UNDUE);
        fault(";", 0, UNDUE);
        fault(";ties 1", 0, UNDUE);
        fault("ties 1;", 7, UNDUE);
        fault("ties 1; ", 8, UNDUE);
        fault("ties 1;;ties 1", 7, UNDUE);
        fault("ties 1 ; ; ties 1", 9, UNDUE);
        fault("ties 1 ties 1", 7, UNDUE);
        fault("1", 0, UNDUE);

        Doc.says(3, "how many LINES");
        fine("ties 1", 1);
        fine("ties1;ties1", 2);
        // five bytes a line and one between: 299 of them
        fine("ties1;".repeat(49) + "ties2", 50);
        fine("ties 1;".repeat(42) + "ties 2", 43);
    }

    private static void shortLines() {
        Doc.says(Doc.TERMS, "LINE: fields WORTH { WORTH }");
        fault("fields", 6, UNDUE);
        fault("fields;", 6, UNDUE);
        fault("fields x", 7, UNDUE);
        for (int many = 1; many <= 4; many++) {
            SecretForces x = new SecretForces();
            Due.is(many + " worths", Due.tell(x, "fields" + " 2".repeat(many)), 1);
            Due.is("K", x.count(0), many);
            Due.is("together", x.count(4), 2 * many);
        }
        fault("fields 1 weight 1", 9, UNDUE);

        Doc.says(Doc.TERMS, "forces NUMBER NUMBER");
        fault("forces", 6, UNDUE);
        fault("forces 1", 8, UNDUE);
        fault("forces 1;", 8, UNDUE);
        fault("forces 1 2 3", 11, UNDUE);
        SecretForces x = new SecretForces();
        Due.is("two", Due.tell(x, "forces 1 2"), 1);
        Due.is("that of side 0 first", x.count(1) * 10 + x.count(2), 12);

        Doc.says(Doc.TERMS, "ties NUMBER");
        fault("ties", 4, UNDUE);
        fault("ties;", 4, UNDUE);
        fault("ties ties", 5, UNDUE);
        fault("ties 1 2", 7, UNDUE);
        fine("ties 2", 1);
    }

    private static void lists() {
        Doc.says(Doc.TERMS, "book SIDE NUMBER { NUMBER }");
        fault("book", 4, UNDUE);
        fault("book ;", 5, UNDUE);
        fault("book 0", 6, UNDUE);
        fault("book 0;", 6, UNDUE);
        fault("book 0 book", 7, UNDUE);
        fault("book 0 005 weight 1", 11, UNDUE);
        for (int many = 1; many <= 6; many++) {
            SecretForces x = new SecretForces();
            Due.is(many + " splits", Due.tell(x, "book 0 " + SIX.substring(0, 4 * many - 1)), 1);
            Due.is("in the book", x.book(0, -1), many);
            Due.is("the last of them", x.book(0, many - 1), many - 1);
        }

        Doc.says(Doc.TERMS, "(SPLITS, told by K digits, one of each FIELD)");
        fault("book 0 5", 7, NO_SPLIT);
        fault("book 0 05", 7, NO_SPLIT);
        fault("book 0 0005", 7, NO_SPLIT);
        fine("book 0 005", 1);
        SecretForces x = Edge.told("fields 1 1 1 1; forces 7 0; book 0 0007 7000 0070; book 1 0000");
        Due.is("the digit of field 0 comes first", x.split(0, x.book(0, 1)), 07000);
        fault("fields 1 1 1 1; forces 7 0; book 0 007", 35, NO_SPLIT);
        fine("fields 1; forces 7 0; book 0 7; book 1 0", 4);
        fault("fields 1; forces 7 0; book 0 07", 29, NO_SPLIT);
        fault("fields 1; forces 7 0; book 0 8", 29, NO_SPLIT);
        // 8 and 9 are 10 and 11, read by eights
        fault("fields 1 1; forces 1 0; book 0 08", 31, NO_SPLIT);
        fault("fields 1 1; forces 2 0; book 0 09", 31, NO_SPLIT);
        fault("fields 1 1; forces 7 0; book 0 16 25; book 1 0", 45, NO_SPLIT);

        Doc.says(Doc.TERMS, "plan SIDE ENTRY { ENTRY }");
        fault("plan", 4, UNDUE);
        fault("plan 0", 6, UNDUE);
        fault("plan 0;", 6, UNDUE);
        fault("plan 0 weight 1", 7, UNDUE);
        for (int many = 1; many <= 8; many++) {
            x = new SecretForces();
            Due.is(many + " entries", Due.tell(x, entries(many)), 1);
            Due.is("in the plan", x.entry(1, -1, 0), many);
            Due.is("the last of them", x.entry(1, many - 1, 0) * 100 + x.entry(1, many - 1, 1), 100 * (many - 1) + many);
        }

        Doc.says(Doc.TERMS, "ENTRY: NUMBER (likewise) weight NUMBER (1 to 99)");
        fault("plan 0 005", 10, UNDUE);
        fault("plan 0 005;", 10, UNDUE);
        fault("plan 0 005 1", 11, UNDUE);
        fault("plan 0 005 ties 1", 11, UNDUE);
        fault("plan 0 005 weight", 17, UNDUE);
        fault("plan 0 005 weight;", 17, UNDUE);
        fault("plan 0 005 weight weight", 18, UNDUE);
        fault("plan 0 005 weight 1 weight 1", 20, UNDUE);
        fault("plan 0 005 weight 0", 18, OUT_OF_BOUNDS);
        fault("plan 0 005 weight 100", 18, OUT_OF_BOUNDS);
        fault("plan 0 005 weight 1000", 18, OUT_OF_BOUNDS);
        fault("plan 0 05 weight 1", 7, NO_SPLIT);
        Due.is("1", Edge.told("plan 0 005 weight 1").entry(0, 0, 1), 1);
        Due.is("99", Edge.told("plan 0 005 weight 99").entry(0, 0, 1), 99);
    }

    /** So many ENTRIES of SIDE 1, WEIGHTS from 1 on. */
    private static String entries(int many) {
        StringBuilder b = new StringBuilder("plan 1");
        for (int k = 0; k < many; k++) {
            b.append(' ').append(EIGHT[k]).append(" weight ").append(k + 1);
        }
        return b.toString();
    }

    private static void anew() {
        Doc.says(Doc.TERMS, "fields, forces: no BOOKS, no PLANS are then");
        for (String line : new String[] {"fields 1 2", "forces 3 2", "fields 8", "forces 0 0"}) {
            SecretForces x = Edge.laden();
            x.text(0);
            Due.is(line, Due.tell(x, line), 1);
            Due.is("books, plans behind " + line, x.count(5) + x.count(6) + x.count(7) + x.count(8), 0);
            Edge.nothingPlanned(line, x);
            x = Edge.laden();
            x.text(0);
            Due.is("told before it", Due.tell(x, "book 0 12; plan 1 11 weight 1; " + line), 3);
            Due.is("books, plans told before " + line, x.count(5) + x.count(6) + x.count(7) + x.count(8), 0);
        }

        Doc.says(Doc.TERMS, "book, plan: that of the SIDE anew");
        SecretForces x = Edge.laden();
        x.text(0);
        Due.is("a book", Due.tell(x, "book 0 12"), 1);
        Due.is("it alone", x.book(0, -1) * 10 + x.book(0, 0), 11);
        Due.is("all else", x.count(6) * 100 + x.count(7) * 10 + x.count(8), 222);
        Due.is("a plan", Due.tell(x, "plan 1 11 weight 7"), 1);
        Due.is("it alone", x.entry(1, -1, 0) * 100 + x.entry(1, 0, 0) * 10 + x.entry(1, 0, 1), 117);
        Edge.fraction("it has all", x.evenShare(1, 1, 0), x.evenShare(1, 1, 1), 1, 1);
        Due.is("all else", x.count(5) * 100 + x.count(6) * 10 + x.count(7), 122);
        Due.is("twice", Due.tell(x, "book 1 02; book 1 20 11; plan 0 03 weight 1; plan 0 30 weight 2"), 4);
        Due.is("the last one counts", x.book(1, -1) * 100 + x.book(1, 0) * 10 + x.book(1, 1), 221);
        Due.is("of plans too", x.entry(0, -1, 0) * 100 + x.entry(0, 0, 0) * 10 + x.entry(0, 0, 1), 132);
    }

    private static void order() {
        Doc.says(Doc.TERMS, "FAULTS, the first from the left");
        fault("ties 3 !", 5, OUT_OF_BOUNDS);
        fault("ties ! 3", 5, UNDUE);
        fault("ties 3; ties 4", 5, OUT_OF_BOUNDS);
        fault("forces 9 !", 7, OUT_OF_BOUNDS);
        fault("book 0 004 00005", 7, NO_SPLIT);
        fault("book 2 !", 5, OUT_OF_BOUNDS);
        fault("plan 0 004 weight 0", 7, NO_SPLIT);
        fault("plan 0 005 weight 0 005 weight 1", 18, OUT_OF_BOUNDS);
        fault("fields 1 1 1 1 1 9", 15, TOO_MANY);
        fault("fields 9 1 1 1 1", 7, OUT_OF_BOUNDS);
        fault("book 0 " + SIX + " 104 !", 31, TOO_MANY);

        Doc.says(Doc.TERMS, "of one place the least");
        fault("fields 1 1 1 1 0", 15, OUT_OF_BOUNDS);
        fault("fields 1 1 1 1 9", 15, OUT_OF_BOUNDS);
        fault("fields 2 2 2 2 1", 15, OUT_OF_BOUNDS);
        fault("fields 1 1 1 1 5", 15, OUT_OF_BOUNDS);
        fault("fields 1 1 1 1 4", 15, TOO_MANY);
        fault("fields 1 1 1 1 00001", 15, UNDUE);
        fault("book 0 " + SIX + " 004", 31, NO_SPLIT);
        fault("book 0 " + SIX + " 005", 31, NO_SPLIT);
        fault("book 0 " + SIX + " 050", 31, NO_SPLIT);
        fault("book 0 " + SIX + " 00005", 31, UNDUE);
        int ninth = entries(8).length() + 1;
        fault(entries(8) + " 005 weight 1", ninth, NO_SPLIT);
        fault(entries(8) + " 004 weight 1", ninth, NO_SPLIT);
        fault(entries(8) + " 121 weight 1", ninth, NO_SPLIT);
        fault("ties 12345", 5, UNDUE);
    }

    private static void ends() {
        Doc.says(Doc.TERMS, "1 the first byte that begins no TOKEN");
        fault("!", 0, UNDUE);
        fault("ties 1!", 6, UNDUE);
        fault("ties 1 \u0000", 7, UNDUE);
        fault("ties -1", 5, UNDUE);
        fault("ties 1\u00ff", 6, UNDUE);
        fault("ties 1\t", 6, UNDUE);
        fault("ties 1; ties 2\r", 14, UNDUE);
        fault("book 0 005,014", 10, UNDUE);

        Doc.says(Doc.TERMS, "TOKEN with which no such text goes on (the end: its place)");
        fault("weight 1", 0, UNDUE);
        fault("0", 0, UNDUE);
        fault("fields fields", 7, UNDUE);
        fault("ties", 4, UNDUE);
        fault("ties  ", 6, UNDUE);
        fault("ties 1;\n\n", 9, UNDUE);
        SecretForces x = new SecretForces();
        Due.put(x, "forces 1 2");
        Due.is("the end is where the first n bytes end", x.text(8), faultOf(8, UNDUE));
        Due.put(x, "forces 1 2");
        Due.is("behind a blank", x.text(9), faultOf(9, UNDUE));
        Due.put(x, "forces 1 2");
        Due.is("no end too soon", x.text(10), 1);
        Due.put(x, "fields 1");
        Due.is("in a word", x.text(5), faultOf(0, UNDUE));
    }

    private static void bounds() {
        Doc.says(Doc.TERMS, "2 a NUMBER out of bounds");
        fault("fields 0", 7, OUT_OF_BOUNDS);
        fault("fields 9", 7, OUT_OF_BOUNDS);
        fault("fields 1 0", 9, OUT_OF_BOUNDS);
        fine("fields 1", 1);
        fine("fields 8", 1);
        fault("forces 8 0", 7, OUT_OF_BOUNDS);
        fault("forces 0 8", 9, OUT_OF_BOUNDS);
        fine("forces 7 0", 1);
        fine("forces 0 7", 1);
        fault("ties 3", 5, OUT_OF_BOUNDS);
        fine("ties 0", 1);
        fine("ties 2", 1);
        fault("book 2 005", 5, OUT_OF_BOUNDS);
        fault("plan 2 005 weight 1", 5, OUT_OF_BOUNDS);
        fine("book 0 005", 1);
        fine("book 1 004", 1);
        fine("plan 0 005 weight 1", 1);
        fine("plan 1 004 weight 99", 1);
        fault("plan 1 004 weight 00", 18, OUT_OF_BOUNDS);
        fault("plan 1 004 weight 0100", 18, OUT_OF_BOUNDS);

        Doc.says(Doc.TERMS, "(WORTHS: also if together they are above 8)");
        fine("fields 7 1", 1);
        fault("fields 7 2", 9, OUT_OF_BOUNDS);
        fault("fields 8 1", 9, OUT_OF_BOUNDS);
        fine("fields 1 1 6", 1);
        fault("fields 1 1 7", 11, OUT_OF_BOUNDS);
        fine("fields 2 2 2 2", 1);
        fault("fields 2 2 2 3", 13, OUT_OF_BOUNDS);
        fine("fields 8; fields 8", 2);
    }

    private static void noSplit() {
        Doc.says(Doc.TERMS, "3 a NUMBER that is no SPLIT of that SIDE as all is told till then");
        fault("book 0 004", 7, NO_SPLIT);
        fault("book 0 006", 7, NO_SPLIT);
        fault("book 1 005", 7, NO_SPLIT);
        fault("plan 0 004 weight 1", 7, NO_SPLIT);
        fault("plan 1 005 weight 1", 7, NO_SPLIT);
        fault("book 0 008", 7, NO_SPLIT);
        fine("forces 4 5; book 0 004; book 1 005", 3);
        fault("book 0 004; forces 4 5", 7, NO_SPLIT);
        fault("forces 4 5; book 0 005", 19, NO_SPLIT);
        fine("fields 1 1; book 0 05; fields 1 1 1; book 0 005", 4);
        fault("fields 1 1; book 0 005", 19, NO_SPLIT);
        fine("forces 0 0; book 0 000; plan 1 000 weight 1", 3);
        SecretForces x = new SecretForces();
        x.forces(0, 2);
        Due.is("as told one by one before", Due.tell(x, "book 0 002"), 1);
        Due.is("not as at first", Due.tell(x, "book 0 005"), faultOf(7, NO_SPLIT));

        Doc.says(Doc.TERMS, "or the SPLIT is there already (in this LINE)");
        fault("book 0 005 005", 11, NO_SPLIT);
        fault("book 0 005 014 005", 15, NO_SPLIT);
        fault("plan 0 005 weight 1 005 weight 1", 20, NO_SPLIT);
        fault("plan 0 005 weight 1 014 weight 1 014 weight 1", 33, NO_SPLIT);
        fine("book 0 005; book 0 005", 2);
        fine("plan 0 005 weight 1; plan 0 005 weight 1", 2);
        fine("book 0 005; plan 0 005 weight 1", 2);
        x = Edge.told("book 0 005; plan 0 005 weight 1");
        Due.is("it was there before the text", Due.tell(x, "book 0 005; plan 0 005 weight 1"), 2);
        Due.is("once", x.book(0, -1) * 10 + x.entry(0, -1, 0), 11);
    }

    private static void tooMany() {
        Doc.says(Doc.TERMS, "4 a 5th WORTH, a 7th SPLIT of a BOOK, a 9th ENTRY (at its first NUMBER)");
        fine("fields 1 1 1 1", 1);
        fault("fields 1 1 1 1 1", 15, TOO_MANY);
        fine("book 0 " + SIX, 1);
        fault("book 0 " + SIX + " 104", 31, TOO_MANY);
        fine("book 0 " + SIX + "; book 0 " + SIX, 2);
        int ninth = entries(8).length() + 1;
        fine(entries(8), 1);
        fault(entries(8) + " 130 weight 1", ninth, TOO_MANY);
        fault(entries(8) + " 130 weight 100", ninth, TOO_MANY);
        fault(entries(8) + " 130", ninth, TOO_MANY);
        fine(entries(8) + "; " + entries(8), 2);
    }
}
