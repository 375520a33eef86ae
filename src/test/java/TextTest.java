/** Promises 2 and 3: the tape, what a text tells, and each kind of fault at its place. */
public final class TextTest {
    private TextTest() {
    }

    public static void main(String[] args) {
        tells();
        staysOrGoes();
        blanks();
        howMany();
        undue();
        outOfBounds();
        noSplit();
        tooMany();
        firstFromTheLeft();
        faultLeavesAll();
        asToldTillThen();
        Due.end("TextTest");
    }

    private static void fault(String text, int place, int kind) {
        fault(new SecretForces(), text, place, kind);
    }

    private static void fault(SecretForces x, String text, int place, int kind) {
        Due.is("text '" + text + "'", Due.tell(x, text), -2 - (8 * place + kind));
        Due.is("the tape behind '" + text + "'", x.count(12), 0);
    }

    private static void lines(String text, int lines) {
        Due.is("text '" + text + "'", Due.tell(new SecretForces(), text), lines);
    }

    private static void tells() {
        SecretForces x = new SecretForces();
        Due.is("text", Due.tell(x, "fields 1 3; forces 3 2; ties 1; book 0 03 21; book 1 20;"
            + " plan 0 12 weight 7 30 weight 99; plan 1 02 weight 1"), 7);
        int[] want = {2, 3, 2, 1, 4, 2, 1, 2, 1, 0, 0, 0, 0};
        for (int what = 0; what < want.length; what++) {
            Due.is("count " + what, x.count(what), want[what]);
        }
        Due.is("worths", x.count(20) * 10 + x.count(21), 13);
        Due.is("book 0", x.book(0, 0) * 10 + x.book(0, 1), 2);
        Due.is("book 1", x.book(1, 0), 2);
        Due.is("plan 0, first", x.entry(0, 0, 0) * 100 + x.entry(0, 0, 1), 107);
        Due.is("plan 0, second", x.entry(0, 1, 0) * 100 + x.entry(0, 1, 1), 399);
        Due.is("plan 1", x.entry(1, 0, 0) * 100 + x.entry(1, 0, 1), 1);
        Due.is("a book anew", Due.tell(x, "book 0 12"), 1);
        Due.is("it alone", x.book(0, -1) * 10 + x.book(0, 0), 11);
        Due.is("the other one stays", x.book(1, -1), 1);
        Due.is("a plan anew, twice", Due.tell(x, "plan 0 03 weight 2; plan 0 21 weight 3"), 2);
        Due.is("it alone", x.entry(0, -1, 0) * 1000 + x.entry(0, 0, 0) * 100 + x.entry(0, 0, 1), 1203);
    }

    private static void staysOrGoes() {
        String all = "fields 1 1; forces 1 1; book 0 01; book 1 10; plan 0 01 weight 1; plan 1 10 weight 1";
        SecretForces x = new SecretForces();
        Due.tell(x, all);
        x.draw(0, true);
        x.draw(1, true);
        x.note(0, 0);
        x.note(1, 0);
        x.state(9);
        Due.is("ties alone", Due.tell(x, "ties 2"), 1);
        Due.is("books, plans stay", x.count(5) + x.count(6) + x.count(7) + x.count(8), 4);
        Due.is("notes go", x.count(9) + x.count(10), 0);
        Due.is("turns of side 0 begin anew", x.entry(0, 0, 2), 0);
        Due.is("turns of side 1 begin anew", x.entry(1, 0, 2), 0);
        Due.is("the state stays", x.count(11), 9);
        Due.is("ties", x.count(3), 2);
        Due.is("forces", Due.tell(x, "forces 1 1"), 1);
        Due.is("no books, no plans", x.count(5) + x.count(6) + x.count(7) + x.count(8), 0);
        Due.is("ties stay", x.count(3), 2);
        Due.tell(x, all);
        Due.is("fields", Due.tell(x, "fields 1 1"), 1);
        Due.is("no books, no plans", x.count(5) + x.count(6) + x.count(7) + x.count(8), 0);
        Due.is("forces stay", x.count(1) * 10 + x.count(2), 11);
        Due.is("a book before fields", Due.tell(x, "book 0 01; plan 1 10 weight 1; fields 2"), 3);
        Due.is("is gone", x.count(5) + x.count(8), 0);
    }

    private static void blanks() {
        lines("ties 1", 1);
        lines("  ties\n\n1 \n", 1);
        lines("ties1", 1);
        lines("ties1;ties2;fields1 1", 3);
        lines("forces 0003 07", 1);
        lines("plan 0 005weight3 500weight04", 1);
        fault("fields 1 1; forces 1 1; book 0 0 1", 31, 3);
        fault("forces 12", 7, 2);
        fault("tie s 1", 0, 1);
        fault("ties\t1", 4, 1);
        fault("ties 1\r", 6, 1);
    }

    private static void howMany() {
        SecretForces x = new SecretForces();
        Due.put(x, "ties 1; ties 2");
        Due.is("above", x.text(21), -1);
        Due.is("far above", x.text(Integer.MAX_VALUE), -1);
        Due.is("below 0", x.text(-1), -1);
        Due.is("far below", x.text(Integer.MIN_VALUE), -1);
        Due.is("the tape stays", x.count(12), 20);
        Due.is("the first six alone", x.text(6), 1);
        Due.is("ties", x.count(3), 1);
        Due.is("the tape is empty", x.count(12), 0);
        Due.is("nothing", x.text(0), -3);
        Due.is("more than it has", x.text(1), -1);
        Due.put(x, "forces 123");
        Due.is("a number that is cut", x.text(8), -2 - (8 * 8 + 1));
        Due.put(x, "ties 1; ties 2");
        Due.is("a text that is cut", x.text(7), -2 - (8 * 7 + 1));
        StringBuilder b = new StringBuilder("ties 0");
        for (int k = 0; k < 42; k++) {
            b.append(";ties 1");
        }
        lines(b.toString(), 43);
    }

    private static void undue() {
        fault("   ", 3, 1);
        fault(";", 0, 1);
        fault("ties", 4, 1);
        fault("ties  ", 6, 1);
        fault("ties;", 4, 1);
        fault("ties 1;", 7, 1);
        fault("ties 1; ", 8, 1);
        fault("ties 1;;ties 1", 7, 1);
        fault("ties 1 2", 7, 1);
        fault("ties 1 ties 2", 7, 1);
        fault("forces 1", 8, 1);
        fault("forces 1;", 8, 1);
        fault("forces 1 1 1", 11, 1);
        fault("fields", 6, 1);
        fault("fields x", 7, 1);
        fault("fields 1 x", 9, 1);
        fault("fieldss 1", 0, 1);
        fault("field 1", 0, 1);
        fault("yields 1", 0, 1);
        fault("porces 1 1", 0, 1);
        fault("lies 1", 0, 1);
        fault("tier 1", 0, 1);
        fault("look 0 005", 0, 1);
        fault("clan 0 005 weight 1", 0, 1);
        fault("plan 0 005 height 1", 11, 1);
        fault("plan 0 005 weights 1", 11, 1);
        fault("Fields 1", 0, 1);
        fault("fieldS 1", 0, 1);
        fault("1", 0, 1);
        fault("weight 1", 0, 1);
        fault("book", 4, 1);
        fault("book 0", 6, 1);
        fault("book 0;", 6, 1);
        fault("book x", 5, 1);
        fault("book 0 005 weight 1", 11, 1);
        fault("plan 0", 6, 1);
        fault("plan 0 005", 10, 1);
        fault("plan 0 005 1", 11, 1);
        fault("plan 0 005 book", 11, 1);
        fault("plan 0 005 weight", 17, 1);
        fault("plan 0 005 weight;", 17, 1);
        fault("plan 0 005 weight x", 18, 1);
        fault("plan 0 005 weight 1 x", 20, 1);
        fault("ties -1", 5, 1);
        fault("ties 1!", 6, 1);
        fault("ties 1\u00e9", 6, 1);
        fault("ties 1\u0000", 6, 1);
        fault("ties 00001", 5, 1);
        fault("book 0 00005", 7, 1);
    }

    private static void outOfBounds() {
        fault("ties 3", 5, 2);
        fault("ties 9999", 5, 2);
        fault("forces 8 0", 7, 2);
        fault("forces 0 8", 9, 2);
        fault("fields 0", 7, 2);
        fault("fields 9", 7, 2);
        fault("fields 8 1", 9, 2);
        fault("fields 4 4 1", 11, 2);
        fault("fields 2 2 2 2 1", 15, 2);
        fault("fields 1 1 1 1 0", 15, 2);
        fault("book 2 005", 5, 2);
        fault("plan 2 005 weight 1", 5, 2);
        fault("plan 0 005 weight 0", 18, 2);
        fault("plan 0 005 weight 100", 18, 2);
        lines("fields 8", 1);
        lines("fields 2 2 2 2", 1);
        lines("forces 7 7", 1);
        lines("forces 0 0", 1);
        lines("ties 2", 1);
        lines("plan 1 004 weight 99", 1);
    }

    private static void noSplit() {
        fault("book 0 004", 7, 3);
        fault("book 1 005", 7, 3);
        fault("book 0 05", 7, 3);
        fault("book 0 5", 7, 3);
        fault("book 0 0005", 7, 3);
        fault("book 0 009", 7, 3);
        fault("book 0 005 005", 11, 3);
        fault("book 0 005 014 005", 15, 3);
        fault("plan 0 004 weight 1", 7, 3);
        fault("plan 0 005 weight 1 005 weight 2", 20, 3);
        lines("book 0 005; book 0 005", 2);
        lines("book 0 005; plan 0 005 weight 1", 2);
        lines("plan 0 005 weight 1; plan 0 005 weight 1", 2);
    }

    private static void tooMany() {
        fault("fields 1 1 1 1 1", 15, 4);
        lines("book 0 005 014 023 032 041 050", 1);
        fault("book 0 005 014 023 032 041 050 104", 31, 4);
        fault("book 0 005 014 023 032 041 050 005", 31, 3);
        fault("book 0 005 014 023 032 041 050 004", 31, 3);
        StringBuilder b = new StringBuilder("plan 1");
        String[] all = {"004", "013", "022", "031", "040", "103", "112", "121"};
        for (String digits : all) {
            b.append(" ").append(digits).append(" weight 1");
        }
        lines(b.toString(), 1);
        fault(b + " 130 weight 1", b.length() + 1, 4);
        fault(b + " 130", b.length() + 1, 4);
        fault(b + " 004 weight 1", b.length() + 1, 3);
        fault(b + " 003 weight 1", b.length() + 1, 3);
    }

    private static void firstFromTheLeft() {
        fault("ties 3 !", 5, 2);
        fault("ties ! 3", 5, 1);
        fault("book 0 004 !", 7, 3);
        fault("fields 9 9 9 9 9", 7, 2);
        fault("plan 0 004 weight 0", 7, 3);
        fault("forces 9 9 9", 7, 2);
    }

    private static void faultLeavesAll() {
        SecretForces x = new SecretForces();
        Due.tell(x, "fields 1 1; forces 1 1; ties 1; book 0 01; plan 0 01 weight 3; plan 1 10 weight 1");
        x.draw(0, true);
        x.note(0, 1);
        x.state(5);
        String wrong = "fields 2 3 1; forces 3 3; ties 2; book 0 003; plan 1 030 weight 1; ties 3";
        fault(x, wrong, wrong.length() - 1, 2);
        int[] want = {2, 1, 1, 1, 2, 1, 0, 1, 1, 1, 0, 5, 0};
        for (int what = 0; what < want.length; what++) {
            Due.is("count " + what + " behind a fault", x.count(what), want[what]);
        }
        Due.is("worths stay", x.count(20) * 100 + x.count(21) * 10 + x.count(22), 110);
        Due.is("the book stays", x.book(0, 0), 0);
        Due.is("the plan stays", x.entry(0, 0, 0) * 10 + x.entry(0, 0, 1), 3);
        Due.is("turns go on", x.entry(0, 0, 2), 1);
        Due.is("splits stay", x.splits(0), 2);
        Due.is("a text behind a fault", Due.tell(x, "book 1 01"), 1);
        Due.is("the book of side 0 stays", x.book(0, -1), 1);
    }

    private static void asToldTillThen() {
        lines("book 0 005; forces 2 1; book 0 002; fields 1 1; book 0 02", 5);
        fault("forces 2 1; book 0 005", 19, 3);
        fault("fields 1 1; book 0 005", 19, 3);
        fault("book 0 002; forces 2 1", 7, 3);
        SecretForces x = new SecretForces();
        x.forces(0, 1);
        fault(x, "book 0 005", 7, 3);
        Due.is("as told one by one", Due.tell(x, "book 0 001"), 1);
        lines("fields 1 1 1 1; forces 7 7; book 0 7000 0007", 3);
        lines("fields 8; forces 0 7; book 0 0; book 1 7; plan 0 0 weight 1", 5);
    }
}
