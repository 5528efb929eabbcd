import java.nio.charset.StandardCharsets;

/** One part for each promise of the document: ordinary inputs, the edges it names, wrong inputs. */
public final class PromisesTest {
    private static final int BAD = -2;
    private static final int OTHER = -3;
    private static final int NOTHING = -4;
    private static final int STUCK = -5;
    private static final int FULL = -6;
    private static final int NONE = WhoOpensOne.NONE;
    private static final int[] NO_NUMBERS = {-1, Integer.MIN_VALUE, Integer.MAX_VALUE};

    private static int wrong = 0;
    private static int promise = 0;

    private static void due(String what, long got, long want) {
        if (got != want) {
            wrong++;
            System.out.println("promise " + promise + ": " + what + " answered " + got + ", due is " + want);
        }
    }

    public static void main(String[] args) {
        shelvesAndRows();
        doorsAndPeople();
        tapeAndHouse();
        looking();
        acting();
        searching();
        lasting();
        telling();
        eveningsAndNights();
        keeping();
        System.out.println(wrong == 0 ? "every promise holds" : wrong + " answers are not as due");
        if (wrong != 0) {
            System.exit(1);
        }
    }

    /** Feeds a text byte by byte and reads it. */
    private static int read(WhoOpensOne x, String text) {
        for (byte b : text.getBytes(StandardCharsets.ISO_8859_1)) {
            x.feed(b, 1);
        }
        return x.house();
    }

    private static WhoOpensOne houseOf(String text) {
        WhoOpensOne x = new WhoOpensOne();
        if (read(x, text) < 1) {
            wrong++;
            System.out.println("the test's own house is faulty: " + text);
        }
        return x;
    }

    /** That a call was refused shows in status() alone. */
    private static void refused(WhoOpensOne x, int bad, int other, int nothing, int stuck, int full) {
        int[] want = {bad, other, nothing, stuck, full};
        for (int i = 0; i < 5; i++) {
            due("refusals " + (-2 - i), x.status(12 + i), want[i]);
        }
    }

    private static void shelvesAndRows() {
        promise = 1;
        WhoOpensOne x = new WhoOpensOne();
        int[] fresh = {0, 0, 0, 2, 0, 0, 0, 1, 0, -1, -1, -1, 0, 0, 0, 0, 0, -1};
        for (int what = 0; what < fresh.length; what++) {
            due("status(" + what + ")", x.status(what), fresh[what]);
        }
        for (int s = 0; s < 8; s++) {
            due("holds", x.holds(s), NONE);
        }
        due("two objects share nothing", new WhoOpensOne().row(0, 0, 1) + x.holds(0), 0);

        promise = 2;
        due("row", x.row(0, 0, 40), 1);
        due("row of none", x.row(7, 4, 0), 1);
        due("row anew", x.row(0, 3, 2), 1);
        due("too long", x.row(0, 0, 41), BAD);
        due("no sort", x.row(0, 5, 1), BAD);
        due("no shelf", x.row(8, 0, 1), BAD);
        for (int no : NO_NUMBERS) {
            due("shelf", x.row(no, 0, 1), BAD);
            due("sort", x.row(0, no, 1), BAD);
            due("length", x.row(0, 0, no), BAD);
        }
        due("still held", x.holds(0), 3);
        refused(x, 12, 0, 0, 0, 0);

        promise = 3;
        x = new WhoOpensOne();
        long v = 0x1234567890ABCDEFL;
        long[] kept = {(byte) v, (short) v, (int) v, v, 1};
        for (int sort = 0; sort < 5; sort++) {
            x.row(sort, sort, 2);
            due("set", x.set(sort, 1, v), 1);
            due("element", x.element(sort, 1), kept[sort]);
            due("element not set", x.element(sort, 0), 0);
        }
        x.set(4, 1, 0);
        due("not so", x.element(4, 1), 0);
        x.set(4, 1, 256);
        due("not 0 is so", x.element(4, 1), 1);
        x.set(0, 0, 200);
        due("bytes have a sign", x.element(0, 0), -56);
        x.row(0, 0, 2);
        due("a new row is empty", x.element(0, 0), 0);
        due("place", x.set(0, 2, 1), BAD);
        due("place", x.set(0, -1, 1), BAD);
        due("nothing", x.set(6, -1, 1), NOTHING);
        x.door(0, 0, 1);
        x.show(5, 0);
        due("a door", x.set(5, -1, 1), OTHER);
        due("no shelf", x.set(8, 0, 1), BAD);
        due("no shelf", x.set(-1, 0, 1), BAD);
        refused(x, 4, 1, 1, 0, 0);

        promise = 4;
        x = new WhoOpensOne();
        x.row(0, 2, 5);
        x.row(1, 2, 3);
        for (int i = 0; i < 5; i++) {
            x.set(0, i, 10 + i);
        }
        due("copy", x.copy(0, 1, 1, 0, 3), 3);
        due("copied", x.element(1, 2), 13);
        due("overlapping, forwards", x.copy(0, 0, 0, 1, 4), 4);
        due("as they were", x.element(0, 4), 13);
        due("as they were", x.element(0, 2), 11);
        due("overlapping, back", x.copy(0, 0, 1, 0, 4), 4);
        due("as they were", x.element(0, 3), 13);
        due("none", x.copy(0, 1, 5, 3, 0), 0);
        due("beyond", x.copy(0, 1, 6, 3, 0), BAD);
        due("from beyond", x.copy(0, 1, 3, 0, 3), BAD);
        due("to beyond", x.copy(0, 1, 0, 1, 3), BAD);
        due("wrapping", x.copy(0, 1, Integer.MAX_VALUE, 0, 1), BAD);
        due("wrapping", x.copy(0, 1, 1, 1, Integer.MAX_VALUE), BAD);
        due("below 0", x.copy(0, 1, 0, 0, -1), BAD);
        due("below 0", x.copy(0, 1, -1, 0, 1), BAD);
        due("below 0", x.copy(0, 1, 0, -1, 1), BAD);
        x.row(2, 1, 5);
        x.door(0, 0, 1);
        x.show(3, 0);
        due("two sorts", x.copy(0, 2, 9, 9, 9), OTHER);
        due("a door", x.copy(0, 3, 9, 9, 9), OTHER);
        due("a door before nothing", x.copy(4, 3, 9, 9, 9), OTHER);
        due("a door before nothing", x.copy(3, 4, 9, 9, 9), OTHER);
        due("nothing", x.copy(0, 4, 9, 9, 9), NOTHING);
        due("nothing", x.copy(4, 0, 9, 9, 9), NOTHING);
        due("nothing", x.copy(4, 4, 0, 0, 0), NOTHING);
        due("shelf first", x.copy(8, 3, 0, 0, 0), BAD);
        due("shelf first", x.copy(3, -1, 0, 0, 0), BAD);
        refused(x, 10, 4, 3, 0, 0);

        promise = 5;
        due("no shelf", x.element(8, 0), 0);
        due("no shelf", x.element(-1, 0), 0);
        due("no row", x.element(3, 0), 0);
        due("nothing", x.element(4, 0), 0);
        due("no place", x.element(0, 5), 0);
        due("no place", x.element(0, -1), 0);
        refused(x, 10, 4, 3, 0, 0);

        promise = 6;
        due("sort", x.holds(0), 2);
        due("sort", x.holds(2), 1);
        due("door", x.holds(3), 10);
        due("nothing", x.holds(4), NONE);
        due("no shelf", x.holds(8), NONE);
        due("no shelf", x.holds(-1), NONE);
        refused(x, 10, 4, 3, 0, 0);

        promise = 7;
        x = houseOf("door 0 0 1; door 2 1 2");
        due("show", x.show(2, 1), 1);
        due("shown", x.holds(2), 11);
        due("take away", x.show(2, NONE), 1);
        due("gone", x.holds(2), NONE);
        x.row(2, 0, 4);
        due("in place of a row", x.show(2, 0), 1);
        due("no row", x.element(2, 0), 0);
        due("no such door", x.show(2, 2), BAD);
        due("no such door", x.show(2, -2), BAD);
        due("no shelf", x.show(8, 0), BAD);
        due("no shelf", x.show(-1, NONE), BAD);
        due("unchanged", x.holds(2), 10);

        promise = 8;
        x = houseOf("door 0 1 2; door 1 3 4; door 2 1 2; door 3 1 2; door 4 1 2; door 5 1 2; one 1");
        for (int d = 0; d < 6; d++) {
            x.show(d, d);
        }
        int[] weights = {1, 1, 2, 1, 0, 2};
        for (int d = 0; d < 6; d++) {
            due("weight", x.says(d, 0), weights[d]);
        }
        due("lid", x.says(1, 1), 3);
        due("gate not open", x.says(2, 2), 0);
        x.stand(2, true);
        due("gate", x.says(2, 2), 1);
        x.stand(5, true);
        due("great", x.says(5, 5), 0);
        due("great as gate", x.says(5, 2), 0);
        due("bolt from a", x.says(3, 3), 1);
        due("cat from a", x.says(4, 4), 0);
        x.move(0, 2);
        due("bolt from b", x.says(3, 3), 0);
        due("cat from b", x.says(4, 4), 1);
        due("gate from b", x.says(2, 2), 1);
        x.move(0, 3);
        due("gate from afar", x.says(2, 2), 0);
        due("gate as great", x.says(2, 5), OTHER);
        due("door as lid", x.says(0, 1), OTHER);
        due("cat as bolt", x.says(4, 3), OTHER);
        x.row(6, 0, 1);
        due("row", x.says(6, 0), OTHER);
        due("nothing", x.says(7, 0), NOTHING);
        due("no kind", x.says(7, 6), BAD);
        due("no kind", x.says(7, -1), BAD);
        due("no shelf", x.says(8, 0), BAD);
        refused(x, 3, 4, 1, 0, 0);
    }

    private static void doorsAndPeople() {
        promise = 9;
        WhoOpensOne x = new WhoOpensOne();
        due("door", x.door(0, 0, 7), 0);
        due("lid", x.door(1, 7, 99), 1);
        due("lid", x.door(1, 7, 7), 2);
        due("lid's b", x.doorOf(1, 2), 7);
        due("not open at first", x.doors(0, 0), 0);
        due("like rooms", x.door(0, 3, 3), BAD);
        due("like rooms", x.door(5, 3, 3), BAD);
        due("no kind", x.door(6, 0, 1), BAD);
        due("no kind", x.door(-1, 0, 1), BAD);
        due("no room", x.door(0, 8, 1), BAD);
        due("no room", x.door(0, 1, 8), BAD);
        due("no room", x.door(1, -1, 1), BAD);
        due("no room", x.door(0, 1, -1), BAD);
        for (int d = 3; d < 14; d++) {
            due("door", x.door(d % 6, 0, 1), d);
        }
        due("full", x.door(0, 0, 1), FULL);
        due("bad before full", x.door(0, 0, 0), BAD);
        due("doors", x.status(0), 14);
        refused(x, 9, 0, 0, 0, 1);

        promise = 10;
        for (int p = 0; p < 4; p++) {
            due("one", x.one(7 - p), p);
        }
        due("full", x.one(0), FULL);
        due("bad before full", x.one(8), BAD);
        due("bad", x.one(-1), BAD);
        due("people", x.status(2), 4);
        refused(x, 11, 0, 0, 0, 2);

        promise = 11;
        due("law was", x.ask(0, 4), 2);
        due("law was", x.ask(0, 1), 4);
        due("law 0", x.ask(0, 0), BAD);
        due("law 5", x.ask(0, 5), BAD);
        due("wind was", x.ask(1, 99), 0);
        due("wind was", x.ask(1, 0), 99);
        due("wind 100", x.ask(1, 100), BAD);
        due("wind -1", x.ask(1, -1), BAD);
        due("no such", x.ask(2, 1), BAD);
        due("no such", x.ask(-1, 1), BAD);
        due("law", x.status(3), 1);

        promise = 12;
        due("opens", x.stand(13, true), 1);
        due("was so", x.stand(13, true), 0);
        due("open", x.doors(0, 0), 1 << 13);
        due("shuts", x.stand(13, false), 1);
        due("was so", x.stand(13, false), 0);
        due("no act", x.status(5), 0);
        due("no door", x.stand(14, true), BAD);
        due("no door", x.stand(-1, false), BAD);

        promise = 13;
        due("was in", x.move(0, 3), 7);
        due("was in", x.move(0, 3), 3);
        due("no one", x.move(4, 0), BAD);
        due("no one", x.move(-1, 0), BAD);
        due("no room", x.move(0, 8), BAD);
        due("no room", x.move(0, -1), BAD);
        due("unmoved", x.where(0), 3);

        promise = 18;
        due("where", x.where(3), 4);
        due("nobody", x.where(4), BAD);
        due("nobody", x.where(-1), BAD);
    }

    private static void tapeAndHouse() {
        promise = 14;
        WhoOpensOne x = new WhoOpensOne();
        due("feed", x.feed(0x646F6F72, 4), 4);
        due("feed", x.feed(0x7F203020, 3), 7);
        due("feed", x.feed('1', 1), 8);
        due("feed", x.feed(0x11112037, 2), 10);
        due("read", x.house(), 1);
        due("as fed", x.doorOf(0, 0) * 100 + x.doorOf(0, 1) * 10 + x.doorOf(0, 2), 17);
        due("n", x.feed(0, 0), BAD);
        due("n", x.feed(0, 5), BAD);
        for (int i = 0; i < 62; i++) {
            x.feed(0, 4);
        }
        due("too much", x.feed(0, 3), FULL);
        due("bad before full", x.feed(0, -1), BAD);
        due("just", x.feed(0, 2), 250);
        due("full", x.feed(0, 1), FULL);
        refused(x, 3, 0, 0, 0, 2);

        promise = 15;
        due("wipe", x.wipe(), 250);
        due("wiped", x.wipe(), 0);
        due("size", x.status(6), 0);

        promise = 16;
        x = new WhoOpensOne();
        String whole = " door 5 1 2open;door 1 6 3 ; one 07;law4;wind 99;moves 0 0 ";
        due("house", read(x, whole), 6);
        due("great", x.doorOf(0, 0), 5);
        due("open", x.doors(0, 0), 1);
        due("lid's b is a", x.doorOf(1, 2), 6);
        due("moved", x.where(0), 0);
        due("law", x.status(3), 4);
        due("wind", x.status(4), 99);
        due("tape", x.status(6), 0);
        due("comes to what there is", read(x, "door 1 2 2"), 1);
        due("doors", x.status(0), 3);
        refused(x, 0, 0, 0, 0, 0);
        faults();
    }

    private static void faults() {
        String[] texts = {"", "   ", "door", "door ", "door 0 1 2;", "door 0 1 2 ; ", ";", "doors 0 1 2", "Door 0 1 2",
            "door 0 1 1", "door 1 1 8", "door 6 1 2", "door 0 8 2", "door 000 1 2", "door 0 1 2 open open", "door 0 1 2 one 1",
            "door 0 1 2,", "law 0", "law 5", "law x", "wind 100", "wind -1", "moves 0 1", "one 1;moves 1 1", "one 8",
            "one 1;moves 0 8", "one 1;moves 0", "one 1;one 1;one 1;one 1;one 9", "open", "5", "door 0 1 2 3", "one 1\t",
            "one 1;;one 2", "law 2 law 3", "one 1 \u00ff", "door 0 1open", "one 1; moves 0 1 open"};
        int[] places = {0, 3, 4, 5, 11, 13, 0, 0, 0,
            9, 9, 5, 7, 5, 16, 11,
            10, 4, 4, 4, 5, 5, 6, 12, 4,
            14, 13, 24, 0, 0, 11, 5,
            6, 6, 6, 8, 17};
        WhoOpensOne x = new WhoOpensOne();
        for (int i = 0; i < texts.length; i++) {
            due("'" + texts[i] + "'", read(x, texts[i]), -20 - places[i]);
            due("'" + texts[i] + "' leaves no tape", x.status(6), 0);
        }
        due("nothing came", x.status(0) + x.status(2) + x.status(4), 0);
        due("nothing came", x.status(3), 2);
        refused(x, texts.length, 0, 0, 0, 0);
        for (int d = 0; d < 13; d++) {
            x.door(0, 0, 1);
        }
        due("no room for a door: its word", read(x, "door 0 1 2; door 9"), -32);
        due("room for one", read(x, "door 0 1 2"), 1);
        due("no room at the tape's end", read(x, "law 1;door"), -26);
        due("law as it was", x.status(3), 2);
        StringBuilder longest = new StringBuilder("one 1");
        while (longest.length() < 250) {
            longest.append(' ');
        }
        due("all of the tape", read(x, longest.toString()), 1);
        due("all blank", read(x, longest.toString().replace("one 1", "     ")), -270);
    }

    private static void looking() {
        promise = 17;
        WhoOpensOne x = houseOf("door 3 4 2; door 2 0 7 open; door 4 1 0");
        int[] first = {3, 4, 2, 0, 1};
        int[] second = {2, 0, 7, 1, 2};
        for (int what = 0; what < 5; what++) {
            due("of the first", x.doorOf(0, what), first[what]);
            due("of the second", x.doorOf(1, what), second[what]);
        }
        due("cat's weight", x.doorOf(2, 4), 0);
        due("what", x.doorOf(0, 5), BAD);
        due("what", x.doorOf(0, -1), BAD);
        due("door", x.doorOf(3, 0), BAD);
        due("door", x.doorOf(-1, 0), BAD);
        refused(x, 4, 0, 0, 0, 0);

        promise = 19;
        x = houseOf("door 0 1 2 open; door 1 1 5 open; door 4 1 2 open; door 5 1 2 open; door 2 3 4 open; door 0 1 3; one 1");
        due("open", x.doors(0, 99), 31);
        due("at 1", x.doors(1, 1), 47);
        due("at 5: no lid", x.doors(1, 5), 0);
        due("at 3", x.doors(1, 3), 48);
        due("may be shut from 1", x.doors(2, -5), 3);
        x.one(2);
        due("the cat from 2", x.doors(2, 0), 7);
        x.one(4);
        due("by several", x.doors(2, 0), 23);
        due("no room", x.doors(1, 8), BAD);
        due("no room", x.doors(1, -1), BAD);
        due("what", x.doors(3, 0), BAD);
        due("what", x.doors(-1, 0), BAD);

        promise = 20;
        x = houseOf("door 0 1 2 open; door 1 1 1 open; door 3 1 2; door 4 1 2; door 5 1 2 open; one 1; one 2");
        due("walks", x.may(0, 0, 0), 1);
        due("not by lids", x.may(0, 1, 0), 0);
        due("not if shut", x.may(0, 2, 0), 0);
        due("walks through the great", x.may(1, 4, 0), 1);
        due("shuts", x.may(1, 0, 1), 1);
        due("not the great", x.may(0, 4, 1), 0);
        due("not from afar", x.may(1, 1, 1), 0);
        due("a bolt from a", x.may(0, 2, 2), 1);
        due("a bolt from b", x.may(1, 2, 2), 0);
        due("a cat from b", x.may(1, 3, 2), 1);
        due("an open one", x.may(0, 0, 2), 0);
        x.ask(0, 3);
        due("too little", x.may(0, 2, 2), 0);
        due("what", x.may(0, 0, 3), BAD);
        due("what", x.may(0, 0, -1), BAD);
        due("one", x.may(2, 0, 0), BAD);
        due("door", x.may(0, 5, 0), BAD);
        refused(x, 4, 0, 0, 0, 0);

        promise = 21;
        x = houseOf("door 0 0 1; door 0 1 2 open; door 2 1 3 open; door 4 3 1 open; door 0 4 5 open; one 1; law 2");
        due("the gate", x.by(0, 0, 4), 1);
        due("too little", x.by(0, 0, 2), 0);
        due("in vain", x.by(0, 0, 6), 0);
        due("a cat in vain", x.by(0, 0, 12), 0);
        due("nobody there", x.by(0, 0, 18), 0);
        x.one(5);
        due("another shuts", x.by(0, 0, 18), 1);
        due("itself", x.by(0, 0, 5), 0);
        due("none", x.by(0, 0, 0), 0);
        due("an open one", x.by(0, 1, 4), 0);
        due("from afar", x.by(1, 0, 4), 0);
        due("others than doors", x.by(0, 0, 32), BAD);
        due("others than doors", x.by(0, 0, -1), BAD);
        due("others than doors", x.by(0, 0, Integer.MIN_VALUE), BAD);
        due("one", x.by(2, 0, 4), BAD);
        due("door", x.by(0, 5, 4), BAD);
        refused(x, 5, 0, 0, 0, 0);
        x.ask(0, 3);
        due("law 3 by a door and a gate", x.by(0, 0, 6), 1);
        WhoOpensOne vain = houseOf("door 0 1 2 open; door 2 1 2 open; door 0 1 0; one 1");
        due("door 0 in vain", vain.by(0, 2, 3), 0);
        due("the gate alone", vain.by(0, 2, 2), 1);

        promise = 22;
        due("law 3", x.ways(0, 0, 0), 2);
        due("least", x.ways(0, 0, 1), 6);
        x.ask(0, 1);
        due("law 1", x.ways(0, 0, 0), 3);
        due("least", x.ways(0, 0, 1), 2);
        x.ask(0, 4);
        due("law 4", x.ways(0, 0, 0), 1);
        due("least", x.ways(0, 0, 1), 22);
        due("none", x.ways(1, 0, 0), 0);
        due("none", x.ways(1, 0, 1), STUCK);
        due("open already", x.ways(0, 1, 1), STUCK);
        due("what", x.ways(1, 0, 2), BAD);
        due("what", x.ways(1, 0, -1), BAD);
        due("one", x.ways(-1, 0, 0), BAD);
        due("door", x.ways(0, -1, 0), BAD);
        refused(x, 9, 0, 0, 2, 0);
        StringBuilder many = new StringBuilder("one 0;law 4;door 0 0 1");
        for (int d = 1; d < 14; d++) {
            many.append(";door 0 0 1open");
        }
        x = houseOf(many.toString());
        due("four of thirteen", x.ways(0, 0, 0), 715);
        due("the first four", x.ways(0, 0, 1), 30);
    }

    private static void acting() {
        promise = 23;
        WhoOpensOne x = houseOf("door 0 0 1 open; door 1 1 1 open; door 0 1 2; one 1");
        due("walks", x.walk(0, 0), 0);
        due("walks back", x.walk(0, 0), 1);
        due("lid", x.walk(0, 1), STUCK);
        due("shut", x.walk(0, 2), STUCK);
        x.move(0, 5);
        due("from afar", x.walk(0, 0), STUCK);
        due("one", x.walk(1, 0), BAD);
        due("door", x.walk(0, 3), BAD);
        refused(x, 2, 0, 0, 3, 0);

        promise = 24;
        x = houseOf("door 0 0 1 open; door 2 0 1 open; door 4 0 1 open; door 5 0 1 open; door 0 0 1; one 0");
        due("shuts: stock then", x.shut(0, 0), 2);
        due("shut", x.doors(0, 0), 14);
        due("cat from a", x.shut(0, 2), STUCK);
        due("great", x.shut(0, 3), STUCK);
        due("not open", x.shut(0, 4), STUCK);
        x.move(0, 1);
        due("cat from b", x.shut(0, 2), 2);
        due("gate", x.shut(0, 1), 0);
        due("one", x.shut(1, 3), BAD);
        due("door", x.shut(0, 5), BAD);
        due("no openings", x.status(5), 0);
        refused(x, 2, 0, 0, 3, 0);

        promise = 25;
        x = houseOf("door 2 0 1; door 0 1 2 open; door 0 1 3 open; door 0 1 4 open; one 1");
        due("too much", x.open(0, 0, 14), STUCK);
        due("opens: stock then", x.open(0, 0, 10), 3);
        due("then", x.doors(0, 0), 5);
        due("openings", x.status(5), 1);
        due("an open one", x.open(0, 0, 4), STUCK);
        due("set", x.open(0, 1, 16), BAD);
        due("set", x.open(0, 1, -2), BAD);
        due("one", x.open(1, 1, 1), BAD);
        due("door", x.open(0, 4, 1), BAD);
        due("by the gate", x.open(0, 3, 1), 2);
        due("openings", x.status(5), 2);
        refused(x, 4, 0, 0, 2, 0);

        promise = 26;
        x = houseOf("door 0 1 2 open; door 5 2 3 open; door 4 4 3 open; door 1 4 4 open; door 0 4 5; one 1; one 5; one 6");
        due("reach", x.reach(0), 30);
        due("reach", x.reach(1), 32);
        due("alone", x.reach(2), 64);
        due("nobody", x.reach(3), BAD);
        due("nobody", x.reach(-1), BAD);

        promise = 27;
        due("all three", x.shutIn(), 7);
        x.move(1, 0);
        due("two", x.shutIn(), 5);
        x.door(0, 0, 4);
        x.stand(5, true);
        due("one", x.shutIn(), 4);
    }

    private static void searching() {
        // One in 1 shuts 0 and 1 (law 2) to open 2, the way out to 0.
        String plain = "door 0 1 2 open; door 0 1 3 open; door 0 1 0; one 1";
        promise = 28;
        WhoOpensOne x = houseOf(plain);
        due("here", x.coming(0, 1), 0);
        due("by walking", x.coming(0, 3), 0);
        due("by one opening", x.coming(0, 0), 1);
        due("no way", x.coming(0, 7), NONE);
        due("nothing done", x.doors(0, 0) * 10 + x.where(0), 31);
        due("no openings counted", x.status(5), 0);
        due("one", x.coming(1, 0), BAD);
        due("room", x.coming(0, 8), BAD);
        due("room", x.coming(0, -1), BAD);
        x.ask(0, 3);
        due("the law forbids", x.coming(0, 0), NONE);
        WhoOpensOne two = houseOf("door 2 1 2 open; door 2 1 3; door 2 3 4; one 1");
        due("a gate behind, a gate ahead", two.coming(0, 4), 2);
        two.ask(0, 3);
        due("not under law 3", two.coming(0, 4), NONE);
        two = houseOf("door 2 5 6 open; door 3 1 0; one 1; one 5");
        due("another stays and shuts", two.coming(0, 0), 1);
        two.move(1, 7);
        due("nobody shuts there", two.coming(0, 0), NONE);
        two = houseOf("door 2 5 6 open; door 3 0 1; one 1; one 5");
        due("the bolt's other side", two.coming(0, 0), NONE);
        WhoOpensOne many = houseOf("one 0");
        for (int d = 0; d < 9; d++) {
            many.door(0, 0, 1);
        }
        due("nine doors", many.coming(0, 1), NONE);
        many.door(0, 0, 1);
        due("ten doors", many.coming(0, 1), STUCK);
        due("bad before stuck", many.coming(0, 8), BAD);
        refused(many, 1, 0, 0, 1, 0);

        promise = 29;
        x = houseOf(plain);
        due("all", x.all(0), 15);
        x.ask(0, 4);
        due("all by walking", x.all(0), 14);
        due("nobody", x.all(1), BAD);
        due("ten doors", many.all(0), STUCK);
        due("bad before stuck", many.all(9), BAD);

        promise = 30;
        x = houseOf(plain);
        due("the first", x.first(0, 0), 2);
        due("none needed", x.first(0, 2), NONE);
        due("here", x.first(0, 1), NONE);
        due("can't", x.first(0, 7), NONE);
        due("one", x.first(1, 0), BAD);
        due("room", x.first(0, 8), BAD);
        x = houseOf("law 1; one 1; door 0 1 2; door 0 1 0; door 0 1 3 open; door 0 0 1; door 0 2 0");
        due("of several the least", x.first(0, 0), 1);
        due("another room", x.first(0, 2), 0);
        x = houseOf("door 3 2 3;door 3 1 3;door 0 3 0;door 1 1 1 open;door 1 1 1 open;door 1 2 2 open;door 1 2 2 open;"
                + "door 5 1 2 open;door 5 2 3 open;one 1");
        due("both bolts, then out by shutting them", x.coming(0, 0), 3);
        due("either bolt may be the first", x.first(0, 0), 0);
        due("ten doors", many.first(0, 1), STUCK);
        due("bad before stuck", many.first(0, -1), BAD);

        promise = 31;
        x = houseOf(plain);
        x.row(0, 0, 4);
        x.set(0, 0, 2);
        x.set(0, 1, 3);
        x.set(0, 2, 0);
        x.set(0, 3, 1);
        due("none", x.errands(0, 0, 0), 0);
        due("by walking", x.errands(0, 0, 2), 0);
        due("then out", x.errands(0, 0, 3), 1);
        due("and back", x.errands(0, 0, 4), 1);
        x.set(0, 0, 0);
        due("out first: no way to 3 then", x.errands(0, 0, 2), NONE);
        x.set(0, 0, 8);
        due("no room", x.errands(0, 0, 1), NONE);
        x.set(0, 0, -1);
        due("no room", x.errands(0, 0, 1), NONE);
        x.row(1, 4, 2);
        x.set(1, 0, 5);
        due("booleans are 1 and 0", x.errands(0, 1, 2), 1);
        due("fewer", x.errands(0, 1, 3), BAD);
        due("n", x.errands(0, 0, 5), BAD);
        due("n", x.errands(0, 0, -1), BAD);
        due("one", x.errands(1, 0, 1), BAD);
        due("shelf", x.errands(0, 8, 1), BAD);
        due("nothing", x.errands(0, 2, 1), NOTHING);
        x.show(2, 0);
        due("door", x.errands(0, 2, 1), OTHER);
        due("n before door", x.errands(0, 2, 5), BAD);
        many.row(0, 0, 2);
        due("fewer before stuck", many.errands(0, 0, 3), BAD);
        due("ten doors", many.errands(0, 0, 0), STUCK);

        promise = 32;
        x = houseOf(plain + "; one 7; one 0; one 2");
        due("lost", x.lost(), 2);
        x.ask(0, 3);
        due("lost", x.lost(), 11);
        due("ten doors", many.lost(), STUCK);
        due("nobody", new WhoOpensOne().lost(), 0);
    }

    private static void lasting() {
        promise = 33;
        WhoOpensOne x = houseOf("door 0 0 1 open; door 1 1 1 open; door 2 0 1 open; door 3 0 1; door 4 0 1 open; door 5 0 1 open");
        due("stock", x.stock(), 4);
        due("empty", new WhoOpensOne().stock(), 0);

        promise = 34;
        due("lasts with nobody there", x.lasts(), 5);
        x = houseOf("door 0 0 1 open; door 0 0 1 open; door 0 0 1 open; door 0 0 1; door 0 0 1");
        due("three boxes under law 2", x.lasts(), 2);
        x.ask(0, 1);
        due("under law 1 forever", x.lasts(), 99);
        x.ask(0, 3);
        due("under law 3 once", x.lasts(), 1);
        x.ask(0, 4);
        due("under law 4 never", x.lasts(), 0);
        due("nothing to open", houseOf("door 0 0 1 open; door 0 0 1 open").lasts(), 0);
        due("greats are never shut", houseOf("door 5 0 1 open; door 5 0 1 open; door 0 0 1").lasts(), 0);
        due("a cat gives nothing", houseOf("door 0 0 1 open; door 0 0 2 open; door 4 0 1").lasts(), 1);
        due("two gates in turn", houseOf("door 2 0 1 open; door 2 0 1").lasts(), 99);

        promise = 35;
        x = houseOf("law 2; door 0 0 1 open; door 0 0 1 open; door 0 0 1 open; door 0 0 1; door 4 0 1 open; door 5 0 1 open");
        due("worth", x.worth(0), 1);
        due("a cat's", x.worth(4), 0);
        due("a great one's", x.worth(5), 0);
        due("not open", x.worth(3), -1000005);
        due("no door", x.worth(6), -1000002);
        due("no door", x.worth(-1), -1000002);
        due("below 0", houseOf("door 0 0 1 open; door 0 0 1 open; door 5 0 1 open").worth(2), -1);
        refused(x, 2, 0, 0, 1, 0);

        promise = 36;
        due("spare", x.spare(), 4);
        x.stand(4, false);
        due("spare, of several the first", houseOf("door 0 0 1 open; door 0 0 1 open").spare(), 0);
        due("none open", houseOf("door 0 0 1").spare(), STUCK);

        promise = 37;
        due("endless", houseOf("door 2 0 1 open; door 2 0 1").endless(), 6);
        due("endless", houseOf("door 0 0 1 open; door 0 0 1").endless(), 2);
        due("endless", houseOf("door 0 0 1 open").endless(), 0);

        promise = 38;
        x = houseOf("door 0 0 1");
        due("one box, two openings' worth", x.boxes(1), 2);
        due("more", x.boxes(5), 6);
        due("the most", x.boxes(19), 20);
        due("no such number", x.boxes(20), NONE);
        x.ask(0, 1);
        due("forever", x.boxes(98), 1);
        due("none there", new WhoOpensOne().boxes(1), NONE);
        due("n", x.boxes(0), BAD);
        due("n", x.boxes(99), BAD);
        due("n", x.boxes(-1), BAD);
        due("no more doors", x.status(0), 1);
        WhoOpensOne full = houseOf("law 1; door 0 0 1");
        for (int d = 1; d < 14; d++) {
            full.door(0, 0, 1);
        }
        due("more than 14, too", full.boxes(98), 1);
        refused(x, 3, 0, 0, 0, 0);
    }

    private static long act(int what, int one, int door, int set) {
        return (long) what << 22 | (long) one << 20 | (long) door << 16 | set;
    }

    private static void telling() {
        promise = 39;
        WhoOpensOne x = houseOf("door 0 1 2 open; door 0 1 3 open; door 0 1 0; one 1; one 3");
        x.row(0, 3, 21);
        x.set(0, 0, act(3, 3, 15, 65535));
        x.set(0, 1, act(0, 0, 0, 65535));
        x.set(0, 2, act(0, 0, 0, 0) | 7L << 24);
        x.set(0, 3, act(1, 0, 2, 3));
        x.set(0, 4, act(0, 0, 2, 0));
        x.set(0, 5, act(2, 0, 2, 9) | Long.MIN_VALUE);
        due("all may be", x.judge(0, 6), NONE);
        due("none", x.judge(0, 0), NONE);
        due("a walk through a shut one", x.judge(0, 7), 6);
        due("the same with more behind", x.judge(0, 20), 6);
        x.set(0, 1, act(0, 2, 0, 0));
        due("nobody of that number", x.judge(0, 6), 1);
        x.set(0, 1, act(0, 0, 3, 0));
        due("no door of that number", x.judge(0, 6), 1);
        x.set(0, 1, act(2, 1, 0, 0));
        due("may not shut from there", x.judge(0, 6), 1);
        x.set(0, 1, act(1, 0, 2, 3 | 1 << 15));
        due("a set with others than doors", x.judge(0, 6), 1);
        due("nothing done", x.doors(0, 0), 3);
        x.row(1, 0, 3);
        x.set(1, 0, -1);
        due("a byte below 0 is nothing done", x.judge(1, 1), NONE);
        due("fewer", x.judge(1, 4), BAD);
        due("n", x.judge(0, 21), BAD);
        due("n", x.judge(0, -1), BAD);
        due("shelf", x.judge(8, 0), BAD);
        due("nothing", x.judge(2, 20), NOTHING);
        x.show(2, 0);
        due("door", x.judge(2, 20), OTHER);
        refused(x, 4, 1, 1, 0, 0);

        promise = 40;
        x.set(0, 1, act(0, 0, 0, 0));
        due("open ones", x.told(0, 4, 0), 4);
        due("openings", x.told(0, 6, 1), 1);
        due("no openings", x.told(0, 3, 1), 0);
        due("shut in", x.told(0, 2, 2), 3);
        due("shut in", x.told(0, 5, 2), 2);
        due("room", x.told(0, 5, 10), 0);
        due("room", x.told(0, 2, 10), 2);
        due("room", x.told(0, 5, 11), 3);
        due("nothing done", x.where(0) * 10 + x.doors(0, 0), 13);
        due("not counted", x.status(5), 0);
        due("wrong", x.told(0, 7, 0), STUCK);
        due("no one", x.told(0, 0, 12), BAD);
        due("what", x.told(0, 0, 3), BAD);
        due("what", x.told(0, 0, 9), BAD);
        due("what", x.told(0, 0, -1), BAD);
        due("fewer", x.told(1, 4, 0), BAD);
        due("n", x.told(2, 21, 0), BAD);
        due("shelf", x.told(-1, 0, 0), BAD);
        due("nothing", x.told(3, 0, 0), NOTHING);
        due("door", x.told(2, 0, 0), OTHER);
        refused(x, 11, 2, 2, 1, 0);
        x.row(4, 2, 20);
        for (int i = 0; i < 20; i++) {
            x.set(4, i, act(3, 0, 0, 0));
        }
        due("twenty acts", x.told(4, 20, 0), 3);
        for (int i = 0; i < 3; i++) {
            x.open(0, 2, 3);
        }
        x.row(0, 2, 1);
        x.set(0, 0, act(0, 0, 2, 0));
        due("openings in them alone", x.told(0, 1, 1), 0);
    }

    private static int[] draws(int seed, int... below) {
        int[] drawn = new int[below.length + 1];
        int s = seed;
        for (int i = 0; i < below.length; i++) {
            s = s * 1103515245 + 12345;
            drawn[i] = ((s >> 16) & 65535) % below[i];
        }
        drawn[below.length] = s;
        return drawn;
    }

    private static void eveningsAndNights() {
        promise = 41;
        for (int seed = -20; seed < 20; seed++) {
            WhoOpensOne x = houseOf("door 0 1 2 open; door 0 1 3 open; door 2 1 0; one 1; one 2");
            x.seed(seed * 77777777);
            int[] drawn = draws(seed * 77777777, 2, 3);
            boolean opens = drawn[0] == 0 && drawn[1] == 2;
            int walksTo = drawn[0] == 0 ? (drawn[1] == 0 ? 2 : drawn[1] == 1 ? 3 : 1) : 1;
            due("openings", x.evening(1), opens ? 1 : 0);
            due("opened by the least set", x.doors(0, 0), opens ? 4 : 3);
            due("or walked", x.where(0), walksTo);
            due("seed", x.status(7), drawn[2]);
            due("counted", x.status(5), opens ? 1 : 0);
        }
        WhoOpensOne x = houseOf("door 0 0 1; one 0");
        due("n", x.evening(0), BAD);
        due("n", x.evening(61), BAD);
        due("sixty", x.evening(60), 0);
        due("no doors", houseOf("one 0").evening(1), STUCK);
        due("no people", houseOf("door 0 0 1").evening(1), STUCK);
        due("bad before stuck", new WhoOpensOne().evening(0), BAD);
        WhoOpensOne swap = houseOf("door 0 0 1 open; door 0 0 1; one 0; law 1");
        int openings = swap.evening(60);
        due("openings of an evening", swap.status(5), openings);
        due("there were some", openings > 5 ? 1 : 0, 1);

        promise = 42;
        for (int seed = 1; seed < 30; seed++) {
            x = houseOf("door 0 1 2; door 0 1 3 open; door 5 1 0; door 1 1 1; wind 50");
            x.seed(seed * 123456789);
            int[] drawn = draws(seed * 123456789, 100, 100, 100);
            int bits = 2 | (drawn[0] < 50 ? 1 : 0) | (drawn[1] < 50 ? 4 : 0) | (drawn[2] < 50 ? 8 : 0);
            due("blown open", x.night(), Integer.bitCount(bits) - 1);
            due("which", x.doors(0, 0), bits);
            due("seed", x.status(7), drawn[3]);
            due("not counted", x.status(5), 0);
        }
        x = houseOf("door 0 0 1");
        due("no wind", x.night(), 0);
        due("drawn nevertheless", x.status(7), draws(1, 100)[1]);
        due("nothing there", new WhoOpensOne().night(), 0);

        promise = 43;
        x = new WhoOpensOne();
        due("at first", x.seed(-9), 1);
        due("ahead", x.seed(Integer.MIN_VALUE), -9);
        due("now", x.status(7), Integer.MIN_VALUE);
    }

    private static void keeping() {
        promise = 44;
        WhoOpensOne x = houseOf("door 0 1 2 open; door 0 1 3 open; door 2 1 0; one 1; law 2; wind 7");
        x.open(0, 2, 3);
        x.seed(55);
        due("image", x.image(), 1);
        x.row(0, 0, 3);
        x.door(3, 4, 5);
        x.one(6);
        x.ask(0, 4);
        x.ask(1, 8);
        x.seed(66);
        x.stand(0, true);
        x.walk(0, 2);
        x.show(1, 3);
        x.show(2, 2);
        x.feed(0x6C617720, 4);
        x.where(99);

        promise = 45;
        due("back", x.back(), 1);
        int[] kept = {3, 1, 1, 2, 7, 1, 4, 55, 2};
        for (int what = 0; what < kept.length; what++) {
            due("status(" + what + ")", x.status(what), kept[what]);
        }
        due("a door that is no more", x.holds(1), NONE);
        due("one of the same number", x.holds(2), 12);
        due("rows stay", x.holds(0), 0);
        due("where", x.where(0), 1);
        due("open", x.doors(0, 0), 4);
        refused(x, 1, 0, 0, 0, 0);
        x.walk(0, 2);
        x.door(0, 0, 1);
        due("again", x.back(), 1);
        due("again", x.where(0) * 10 + x.status(0), 13);
        due("nothing kept", new WhoOpensOne().back(), STUCK);
        x.door(5, 6, 7);
        x.image();
        x.stand(3, true);
        x.back();
        due("a later image", x.doorOf(3, 0), 5);

        promise = 46;
        x = houseOf("door 0 1 2 open; door 0 1 3 open; door 2 1 0; one 1; one 2; law 3; wind 9");
        x.seed(-1);
        x.row(3, 0, 0);
        x.show(4, 0);
        x.feed(0, 3);
        int[] want = {3, 2, 2, 3, 9, 0, 3, -1, 2};
        for (int what = 0; what < want.length; what++) {
            due("status(" + what + ")", x.status(what), want[what]);
        }
        x.set(9, 0, 0);
        x.set(4, 0, 0);
        x.set(5, 0, 0);
        x.back();
        for (int i = 0; i < 3; i++) {
            x.one(0);
        }
        refused(x, 1, 1, 1, 1, 1);
        int[] none = {-1, 9, 10, 11, 17, Integer.MIN_VALUE, Integer.MAX_VALUE};
        for (int what : none) {
            due("another what", x.status(what), NONE);
        }
        refused(x, 1, 1, 1, 1, 1);
    }
}
