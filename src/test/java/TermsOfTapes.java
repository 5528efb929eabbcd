import java.util.function.Supplier;

/** The terms of a HOUSE that is read from THE TAPE. In a marked text ^ stands before the FAULT. */
final class TermsOfTapes {
    private static final int FULL = Sentences.FULL;

    private TermsOfTapes() {
    }

    static void tryAll(Sentences s) {
        size(s);
        tokens(s);
        statements(s);
        allOrNothing(s);
        faults(s);
        noRoom(s);
        others(s);
        tooEarly(s);
    }

    private static String blanks(int n) {
        return " ".repeat(n);
    }

    /** What a text gives in a new object: how many statements, or the fault. */
    private static WhoOpensOne read(Sentences s, long want, String text) {
        WhoOpensOne x = new WhoOpensOne();
        s.reads(x, want, text);
        return x;
    }

    private static void faulty(Sentences s, String... marked) {
        for (String text : marked) {
            s.faulty(WhoOpensOne::new, text);
        }
    }

    private static void size(Sentences s) {
        s.terms("A HOUSE is read from THE TAPE (bytes, 250 at most).");
        WhoOpensOne x = Sentences.feed(new WhoOpensOne(), blanks(240) + "wind  12");
        s.due(x, 248, "status", 6);
        s.due(x, FULL, "feed", '3', 3);
        s.due(x, 250, "feed", 256 * ' ' + ' ', 2);
        s.due(x, FULL, "feed", '3', 1);
        s.due(x, 1, "house");
        s.due(x, 12, "status", 4);
        s.due(x, 0, "status", 6);
        read(s, 1, blanks(245) + "one 6");
        read(s, -20 - 249, blanks(249) + "x");
        read(s, -20 - 250, blanks(250));
    }

    private static void tokens(Sentences s) {
        s.terms("TOKENS, each as long as can be: WORDS (a .. z), NUMBERS (digits), the SIGN ;");
        WhoOpensOne x = read(s, 5, "door3 4 2open;one7;law4;wind90;moves0 0");
        s.due(x, 3, "doorOf", 0, 0);
        s.due(x, 4, "doorOf", 0, 1);
        s.due(x, 2, "doorOf", 0, 2);
        s.due(x, 1, "doorOf", 0, 3);
        s.due(x, 0, "where", 0);
        s.due(x, 4, "status", 3);
        s.due(x, 90, "status", 4);
        s.due(read(s, 1, "wind 09"), 9, "status", 4);
        s.due(read(s, 1, "wind 78"), 78, "status", 4);
        s.due(read(s, 1, "wind 56"), 56, "status", 4);
        s.due(read(s, 1, "wind 34"), 34, "status", 4);
        s.due(read(s, 1, "wind 12"), 12, "status", 4);
        faulty(s, "door 0 1 2 ^opena", "door 0 1 2 ^openz", "door 0 1 2 ^openone 3", "door 0 1 2 open^`", "door 0 1 2 open^{",
                "door 0 1 2 open^A", "door 0 1 2 open^Z", "^doorone 1", "^ones 1", "^on e 1", "^o ne 1", "^windlaw 3",
                "door 0 ^12", "door 01 2 3 ^4", "one ^11", "wind 1 ^2", "one 1^/", "one 1^:", "wind 9^x");
        for (int b = 0; b < 256; b++) {
            boolean letter = b >= 'a' && b <= 'z';
            read(s, b == ' ' ? 1 : -20 - (letter ? 11 : b == ';' ? 16 : 15), "door 0 1 2 open" + (char) b);
            boolean digit = b >= '0' && b <= '9';
            x = read(s, b == ' ' || digit ? 1 : -20 - (b == ';' ? 7 : 6), "wind 7" + (char) b);
            s.due(x, digit ? 70 + b - '0' : b == ' ' ? 7 : 0, "status", 4);
        }

        for (String text : new String[] {"door 0 1 2", "one 1", "law 1", "wind 1", "one 1;moves 0 1", "door 0 1 2 open"}) {
            int begin = Math.max(text.indexOf(';') + 1, text.lastIndexOf(' ') == 10 ? 11 : 0);
            for (int i = begin; i < text.length() && Character.isLetter(text.charAt(i)); i++) {
                read(s, -20 - begin, text.substring(0, i) + 'q' + text.substring(i + 1));
                read(s, -20 - begin, text.substring(0, i) + text.charAt(i) + text.substring(i));
            }
        }

        s.terms("- blanks (32) may stand anywhere between.");
        x = read(s, 2, "   door   3   4   2   open   ;   one   5   ");
        s.due(x, 1, "doors", 0, 0);
        s.due(x, 5, "where", 0);
        read(s, 2, "one 1 ;one 2");
        read(s, 2, "one 1; one 2");
        faulty(s, "one^\t1", "one 1^\n", "^\0one 1", "one 1;^\u00a0one 2", "^\u001fone 1", "^!one 1");
    }

    private static void statements(Sentences s) {
        s.terms("STATEMENTS, one or more, with ; between:");
        read(s, 1, "one 1");
        read(s, 2, "one 1;one 2");
        read(s, 3, "one 1;one 2;law 3");
        faulty(s, "^", "^;", "^;one 1", "one 1;^;one 2", "one 1;^", "one 1 ^one 2", "law 2 ^law 3", "wind 2 ^wind 3",
                "one 1;moves 0 1 ^moves 0 2", "door 0 1 2 ^door 0 1 2", "door 0 1 2 open ^door 0 1 2");
        StringBuilder most = new StringBuilder("law1");
        while (most.length() + 5 <= 250) {
            most.append(";law3");
        }
        s.due(read(s, 50, most.toString()), 3, "status", 3);

        s.terms("door K A B, perhaps open (KIND 0 to 5; also of LIDS two NUMBERS, the second being any ROOM);");
        WhoOpensOne x = new WhoOpensOne();
        for (int kind = 0; kind < 6; kind++) {
            s.reads(x, 1, "door " + kind + " 0 7" + (kind % 2 == 0 ? " open" : ""));
            s.due(x, kind, "doorOf", kind, 0);
            s.due(x, 0, "doorOf", kind, 1);
            s.due(x, kind == 1 ? 0 : 7, "doorOf", kind, 2);
            s.due(x, 1 - kind % 2, "doorOf", kind, 3);
        }
        faulty(s, "door ^6 0 7", "door ^99 0 7", "door 1 3^", "door 1 3 ^open", "door 1 3 ^;one 1", "door 1 3 ^8", "door 1 ^8 3",
                "door 0 ^8 3", "door 0 3 ^8", "door 0 1 ^open", "door 0 ^open", "door ^open", "door 0 1 2 open ^open",
                "door 0 1 2 ^3", "door 0 1 2 ^shut", "door ^x", "door ^;", "door 0 ^;", "door 0 1 ^;");
        for (int room = 0; room < 8; room++) {
            x = read(s, 1, "door 1 3 " + room);
            s.due(x, 3, "doorOf", 0, 2);
            s.due(x, 1, "doors", 1, 3);
        }

        s.terms("one R; law N; wind N; moves P R (one of the PEOPLE is in a ROOM).");
        x = read(s, 4, "one 0;one 7;moves 0 7;moves 1 0");
        s.due(x, 7, "where", 0);
        s.due(x, 0, "where", 1);
        for (int n = 1; n <= 4; n++) {
            s.due(read(s, 1, "law " + n), n, "status", 3);
        }
        s.due(read(s, 2, "wind 5;wind 0"), 0, "status", 4);
        s.due(read(s, 1, "wind 99"), 99, "status", 4);
        faulty(s, "one ^8", "law ^0", "law ^5", "wind ^100", "one 1;moves 0 ^8", "one ^x", "law ^x", "wind ^x", "moves ^x",
                "one 1;moves 0 ^x", "one ^;", "law ^;", "wind ^;", "one 1;moves ^;", "one 1;moves 0 ^;", "one 1 ^2", "law 1 ^2",
                "wind 1 ^2", "one 1;moves 0 1 ^2", "one 1 ^open", "^open", "^7", "^seed 1", "^stand 0", "wind ^-1");
    }

    private static void allOrNothing(Sentences s) {
        s.terms("All comes to what there is, or nothing.");
        WhoOpensOne x = Sentences.house("door 2 1 2 open; one 3; law 4; wind 7");
        s.reads(x, 3, "door 4 5 6 open;one 2;moves 0 6");
        s.due(x, 2, "status", 0);
        s.due(x, 2, "doorOf", 0, 0);
        s.due(x, 4, "doorOf", 1, 0);
        s.due(x, 3, "doors", 0, 0);
        s.due(x, 2, "status", 2);
        s.due(x, 6, "where", 0);
        s.due(x, 2, "where", 1);
        s.due(x, 4, "status", 3);
        s.due(x, 7, "status", 4);
        s.due(x, 0, "status", 5);
        Supplier<WhoOpensOne> some = () -> Sentences.house("door 2 1 2 open; one 3; law 4; wind 7");
        s.faulty(some, "door 4 5 6 open;one 2;moves 0 6;law 1;wind 3;^x");
        s.faulty(some, "door 4 5 6 open;one 2;moves 0 6;law 1;wind 3;^");
        s.faulty(some, "moves 0 1;law 3;wind 9 ^9");
    }

    private static void faults(Sentences s) {
        s.terms("The FAULT: the place of the first byte of the first TOKEN that can't stand there");
        faulty(s, "one 1;  ^two 2;three 3", "door 0 1 2 ^closed", "one 1;law ^9;wind 100", "^Door 9 9 9",
                "one 1;law 2;  wind 3;    moves   ^1 9");

        s.terms("(also a NUMBER that may not be, or has more than 2 digits;");
        faulty(s, "one ^8", "one ^08", "one ^80", "one ^99", "one ^001", "one ^000", "law ^00", "law ^05", "law ^12", "law ^002",
                "wind ^100", "wind ^099", "wind ^000", "wind ^00000000000000000000000000000000007", "wind ^4294967297",
                "door ^000 1 2", "door ^06 1 2", "door 0 ^001 2", "door 0 ^08 2", "door 0 1 ^002", "door 0 1 ^20",
                "one 1;moves ^000 1", "one 1;moves 0 ^001", "one 1;moves ^10 1");
        WhoOpensOne x = read(s, 5, "door 03 04 02;one 07;law 04;wind 00;moves 00 06");
        s.due(x, 3, "doorOf", 0, 0);
        s.due(x, 4, "doorOf", 0, 1);
        s.due(x, 2, "doorOf", 0, 2);
        s.due(x, 6, "where", 0);
    }

    private static WhoOpensOne doors(int n) {
        WhoOpensOne x = new WhoOpensOne();
        for (int d = 0; d < n; d++) {
            x.door(0, 1, 2);
        }
        return x;
    }

    private static void noRoom(Sentences s) {
        s.terms("what there is no room for: its word;");
        s.faulty(() -> doors(14), "^door 0 1 2");
        s.faulty(() -> doors(14), "law 3; ^door 0 1 2 open");
        s.faulty(() -> doors(14), "^door 9");
        s.faulty(() -> doors(14), "^door");
        s.faulty(() -> doors(13), "door 0 1 2;^door 0 1 2");
        s.faulty(() -> doors(12), "door 0 1 2;door 1 1 2 open;one 1;^door 0 1 2");
        WhoOpensOne x = doors(13);
        s.reads(x, 1, "door 5 6 7 open");
        s.due(x, 14, "status", 0);
        s.due(x, 1 << 13, "doors", 0, 0);
        faulty(s, "one 1;one 1;one 1;one 1;^one 1", "one 1;one 1;one 1;one 1;^one 9", "one 1;one 1;one 1;one 1;^one");
        s.faulty(() -> Sentences.house("one 1; one 2; one 3; one 4"), "law 1;  ^one 5");
        s.faulty(() -> Sentences.house("one 1; one 2; one 3"), "one 7;^one 5");
        s.due(read(s, 4, "one 1;one 2;one 3;one 4"), 4, "where", 3);
    }

    private static void others(Sentences s) {
        s.terms("B that is A, but of LIDS;");
        faulty(s, "door 0 3 ^3", "door 2 3 ^3", "door 3 3 ^3", "door 4 3 ^3", "door 5 3 ^3 open", "door 0 0 ^00", "door 0 7 ^7");
        s.due(read(s, 1, "door 1 3 3 open"), 1, "doors", 0, 0);

        s.terms("one of the PEOPLE there isn't then;");
        faulty(s, "moves ^0 1", "moves ^0 1;one 1", "one 1;moves ^1 1", "one 1;one 1;one 1;one 1;moves ^4 1", "one 1;moves ^1 9",
                "one 1;moves ^1");
        s.due(read(s, 5, "one 1;one 1;one 1;one 1;moves 3 6"), 6, "where", 3);
        s.faulty(() -> Sentences.house("one 1; one 2"), "moves 0 5;moves 1 6;moves ^2 7;one 3");
        WhoOpensOne x = Sentences.house("one 1; one 2");
        s.reads(x, 2, "one 3;moves 2 7");
        s.due(x, 7, "where", 2);

        s.terms("a byte that begins none);");
        for (int b = 0; b < 256; b++) {
            read(s, b == ' ' ? 1 : -20 - (b == ';' ? 7 : 6), "one 1 " + (char) b);
        }
        faulty(s, "^,", "one 1^,", "one 1 ^-", "one^.1", "door 0 1 2^,", "one 1;^\u00ff", "one ^+1", "one 1;^\u00e9");
    }

    private static void tooEarly(Sentences s) {
        s.terms("THE TAPE's size, if it ends too early.");
        faulty(s, "^", " ^", "   ^", "door^", "door  ^", "door 0^", "door 0 ^", "door 0 1^", "door 0 1  ^", "one^", "one ^", "law^",
                "law ^", "wind^", "wind ^", "moves^", "moves ^", "one 1;moves 0^", "one 1;moves 0 ^", "one 1;^", "one 1 ;  ^",
                "door 0 1 2 open;^");
    }
}
