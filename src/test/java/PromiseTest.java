import java.util.function.LongSupplier;

/** For each promise: ordinary inputs, edges and wrong inputs, with the answers that the document asks for. */
public final class PromiseTest {
    private static final String STREET = "size 5 by 2;wall 2 1;door d at 1 0 high 2;door e at 4 1 high 1 open 8 to 20;lamp l at 0 0 lit 18 to 24;"
            + "person p at 0 1;person q at 3 1;shade (hour>5 and hour<18)*(hour-12)*height/2;cloud 50;";
    private static final String ISLANDS = "size 5 by 1;wall 1 0 3 0;door a at 0 0 high 3;door b at 4 0 high 1 open 0 to 1;shade (height-2)*2;"
            + "cloud 25;person p at 2 0;";

    private static int asked;
    private static int wrong;
    private static int promise;

    private static void due(long want, long got, String call) {
        asked++;
        if (got != want) {
            wrong++;
            System.out.println("promise " + promise + ": " + call + " answered " + got + ", due is " + want);
        }
    }

    private static void due(boolean want, boolean got, String call) {
        due(want ? 1 : 0, got ? 1 : 0, call);
    }

    private static void dueAll(String call, LongSupplier... pairs) {
        for (int i = 0; i + 1 < pairs.length; i += 2) {
            due(pairs[i].getAsLong(), pairs[i + 1].getAsLong(), call + " #" + i / 2);
        }
    }

    private static void feed(ShadowDoors x, String text) {
        int[] n = Texts.numbersOf(text);
        int before = x.about(14);
        for (int i = 0; i + 4 < n.length; i += 5) {
            x.feed(n[i], n[i + 1], n[i + 2], n[i + 3], n[i + 4]);
        }
        x.end(before + text.length());
    }

    private static int tell(ShadowDoors x, String text) {
        feed(x, text);
        return x.quarter();
    }

    private static ShadowDoors told(String text) {
        ShadowDoors x = new ShadowDoors();
        due(true, tell(x, text) >= 0, "quarter() of " + text);
        return x;
    }

    private static void hours(ShadowDoors x, int many) {
        for (int i = 0; i < many; i++) {
            x.hour();
        }
    }

    private static long bits(int... cells) {
        long bits = 0;
        for (int cell : cells) {
            bits |= 1L << cell;
        }
        return bits;
    }

    private static void aNewObject() {
        promise = 1;
        ShadowDoors x = new ShadowDoors();
        int[] about = {0, 0, 0, 0, 6, 6, 0, 0, 0, 0, 0, 0, 0, 0, 0, 0, 0};
        for (int what = 0; what < about.length; what++) {
            due(about[what], x.about(what), "about(" + what + ")");
        }
        due(bits(0, 1, 6), x.moves(0, 0), "moves(0, 0)");
        due(bits(35, 34, 29), x.moves(35, 48), "moves(35, 48)");
        due(0, x.fault(0), "fault(0)");
        due(-1, x.fault(1), "fault(1)");
        due(-1, ShadowDoors.NONE, "NONE");
    }

    private static void feeding() {
        promise = 2;
        ShadowDoors x = new ShadowDoors();
        due(20, x.feed(0x73697a65, 0x20332062, 0x7920343b, 0x77616c6c, 0x20322033), "feed of 'size 3 by 4;wall 2 3'");
        due(40, x.feed(0x3b202020, 0x20202020, 0x20202020, 0x0a0a0a0a, 0x20202020), "feed of blanks");
        due(0, x.quarter(), "quarter()");
        due(3, x.about(4), "width");
        due(4, x.about(5), "depth");
        due(1, x.about(3), "walls");
        for (int i = 1; i <= 80; i++) {
            due(20 * i, x.feed(-1, Integer.MIN_VALUE, Integer.MAX_VALUE, 0, 0x20202020), "feed " + i);
        }
        due(-1, x.feed(0, 0, 0, 0, 0), "feed beyond 1,600");
        due(1600, x.about(14), "bytes");
        due(1581, x.end(1581), "end(1581)");
        due(-1, x.feed(0, 0, 0, 0, 0), "feed to 1,601");
        due(1580, x.end(1580), "end(1580)");
        due(1600, x.feed(0, 0, 0, 0, 0), "feed to 1,600");
        due(-1, x.quarter(), "quarter() of bytes above 127");
        due(1, x.fault(0), "fault(0)");
        due(0, x.fault(1), "fault(1)");
    }

    private static void ending() {
        promise = 3;
        ShadowDoors x = new ShadowDoors();
        due(0, x.end(0), "end(0) of none");
        due(-1, x.end(1), "end(1) of none");
        feed(x, "cloud 7;");
        due(8, x.about(14), "bytes");
        due(-1, x.end(-1), "end(-1)");
        due(-1, x.end(9), "end(9)");
        due(-1, x.end(Integer.MIN_VALUE), "end(least)");
        due(8, x.about(14), "bytes stay");
        due(8, x.end(8), "end(8)");
        feed(x, "cloud 8;");
        due(16, x.about(14), "bytes behind those");
        due(8, x.end(8), "end(8)");
        due(0, x.quarter(), "quarter()");
        due(0, x.fault(0), "no second cloud was left");
        cutIs(2, 8, "cloud 12ab", 8);
        cutIs(2, 7, "cloud 1  ;", 7);
        cutIs(2, 7, "cloud 12;", 7);
        cutIs(2, 5, "door abcdefghi", 5);
        cutIs(2, 13, "door abcdefghi", 13);
        cutIs(2, 0, "size 3", 3);
        cutIs(0, -1, "cloud 100;100", 10);
    }

    /** What was cut off is not looked at, though it was fed. */
    private static void cutIs(int which, int place, String text, int length) {
        ShadowDoors x = new ShadowDoors();
        feed(x, text);
        x.end(length);
        x.quarter();
        due(which, x.fault(0), "fault(0) of " + length + " bytes of '" + text + "'");
        due(place, x.fault(1), "fault(1) of " + length + " bytes of '" + text + "'");
    }

    private static void quarters() {
        promise = 4;
        ShadowDoors x = new ShadowDoors();
        due(2, tell(x, STREET), "quarter()");
        due(0, x.about(14), "the tape is empty");
        x.later(5);
        x.look(9, 0, true);
        x.soonest(5, 9);
        x.go(0, 0);
        x.hour();
        x.shut(0);
        x.out(0);
        x.eclipse();
        x.image(1);
        x.undo();
        long[] before = new long[17];
        for (int what = 0; what < 17; what++) {
            before[what] = x.about(what);
        }
        due(-1, tell(x, "size 2 by 2;door a at 0 0 high 1;?"), "quarter() with a fault");
        for (int what = 0; what < 17; what++) {
            due(before[what], x.about(what), "all stays, about(" + what + ")");
        }
        due(1, x.door(0, 3), "the door stays shut");
        due(1, x.back(1), "the box stays");
        due(2, tell(x, STREET), "quarter() again");
        int[] about = {2, 1, 2, 1, 5, 2, 0, 0, 0, 0, 0, 0, 0, 5, 0, 10, 0};
        for (int what = 0; what < 17; what++) {
            due(about[what], x.about(what), "all as told, about(" + what + ")");
        }
        dueAll("as told", () -> -1, () -> x.back(1), () -> 0, () -> x.door(0, 3), () -> 0, () -> x.lamp(0, 2), () -> 5, () -> x.person(0, 0),
                () -> 0, () -> x.person(0, 1), () -> -1, () -> x.lies(0));
        due(0, tell(x, ""), "quarter() of nothing");
        due(6, x.about(4), "6 by 6 again");
        due(0, tell(x, " \n "), "quarter() of blanks");
        due(8, tell(x, "size 8 by 1;door a at 0 0 high 1;door b at 1 0 high 1;door c at 2 0 high 1;door d at 3 0 high 1;"
                + "door e at 4 0 high 1;door f at 5 0 high 1;door g at 6 0 high 1;door h at 7 0 high 1;"), "eight doors");
    }

    private static void quarterBehindQuarter() {
        String plain = "size 4 by 1;wall 1 0;door a at 0 0 high 1;person p at 0 0;";
        ShadowDoors x = told(plain + "shade date+3;cloud 40;");
        due(bits(2, 3), x.shadow(0, 0), "shadow(0, 0)");
        due(2, x.go(0, 2), "go(0, 2)");
        x.look(0, 2, true);
        x.untell(0);
        for (int i = 0; i < 3; i++) {
            due(1, tell(x, plain), "quarter() without shade");
            due(0, x.shadow(0, 0), "no shadow is left");
            due(0, x.about(15), "no unit is left");
            due(0, x.person(0, 1), "he is not gone");
            due(12, x.fit(0), "no look is left");
        }
        due(1, tell(x, plain + "shade 3;"), "quarter() without cloud");
        due(1, x.surest(0, 3, 1, 0), "no cloud is left");
        due(0, x.look(0, 2, false), "the first look");
        // Of the cells 0, 2, 3 the first would shade it.
        due(8, x.fit(0), "the first look counts, as it was told");
    }

    private static void faultIs(int which, int place, String text) {
        ShadowDoors x = new ShadowDoors();
        due(which == 0, tell(x, text) != -1, "quarter() of '" + text + "'");
        due(which, x.fault(0), "fault(0) of '" + text + "'");
        due(place, x.fault(1), "fault(1) of '" + text + "'");
    }

    private static void faultsOfTokens() {
        faultIs(1, 0, "\t");
        faultIs(1, 0, "Size 3 by 3;");
        faultIs(1, 13, "size 3 by 3; \r");
        faultIs(1, 0, "abcdefghi");
        faultIs(2, 0, "abcdefgh");
        faultIs(1, 5, "door abcdefghi at 1 1 high 1;");
        faultIs(0, -1, "door abcdefgh at 1 1 high 1;");
        faultIs(1, 6, "cloud 00001;");
        faultIs(0, -1, "cloud 0001;");
        faultIs(1, 4, "size3by3;");
        faultIs(0, -1, "size3 by3;wall1 1;");
        faultIs(1, 7, "wall 1 1a;");
        faultIs(1, 8, "shade 1 & 2;");
        faultIs(1, 8, "wall 0 0\u00e9");
        faultIs(2, 8, "cloud 1;a?");
        faultIs(2, 11, "size 3 by 3");
        faultIs(2, 14, "size 3 by 3 \n ");
    }

    private static void faultsOfLines() {
        faultIs(2, 0, "1");
        faultIs(2, 0, ";");
        faultIs(2, 0, "high");
        faultIs(2, 12, "size 3 by 3;size 3 by 3;");
        faultIs(2, 8, "cloud 1;size 3 by 3;");
        faultIs(4, 5, "size 9 by 9;");
        faultIs(0, -1, "size 8 by 8;");
        faultIs(0, -1, "size 1 by 1;");
        faultIs(2, 9, "wall 0 0 );");
        faultIs(2, 10, "wall 0 0 1;");
        faultIs(2, 5, "door door at 1 1 high 1;");
        for (String word : "size by wall door at high open to lamp lit person shade cloud or and not height hour date".split(" ")) {
            faultIs(2, 5, "door " + word + " at 1 1 high 1;");
        }
        faultIs(0, -1, "door a at 1 1 high 1;lamp a at 1 1 lit 0 to 24;person a at 1 1;person b at 1 1;lamp b at 1 1 lit 23 to 24;");
        faultIs(3, 5 + 26, "lamp a at 1 1 lit 0 to 24;lamp a at 1 1 lit 0 to 24;");
        faultIs(3, 23, "person a at 1 1;person a at 1 1;");
        faultIs(3, 21, "wall 1 1;lamp l at 1 1 lit 0 to 24;");
        faultIs(3, 23, "wall 1 1;person q at 1 1;");
        faultIs(3, 33, "lamp l at 1 1 lit 0 to 24;wall 1 1;");
        faultIs(4, 19, "door a at 1 1 high 10;");
        faultIs(0, -1, "door a at 1 1 high 9;");
        faultIs(2, 21, "door a at 1 1 high 1 to 3;");
        faultIs(0, -1, "door a at 1 1 high 1 open 23 to 24;");
        faultIs(4, 32, "door a at 1 1 high 1 open 23 to 25;");
        faultIs(4, 18, "lamp l at 1 1 lit 24 to 24;");
        faultIs(4, 23, "lamp l at 1 1 lit 7 to 7;");
        faultIs(0, -1, "cloud 0;");
        faultIs(0, -1, "cloud 100;");
    }

    private static String walls(int from, int to) {
        StringBuilder text = new StringBuilder();
        for (int i = from; i < to; i++) {
            text.append(' ').append(i % 8).append(' ').append(i / 8);
        }
        return text.toString();
    }

    private static void faultsOfCounts() {
        String full = "size 8 by 8;wall" + walls(0, 24);
        faultIs(0, -1, full + ";");
        faultIs(2, full.length() + 1, full + " 0 3;");
        faultIs(2, full.length() + 1, full + " 9 3;");
        faultIs(1, full.length() + 1, full + " 9a 3;");
        faultIs(2, full.length() + 6, full + ";wall 0 3;");
        faultIs(2, full.length() + 5, full + ";wall;");
        StringBuilder doors = new StringBuilder("size 8 by 8;");
        StringBuilder lamps = new StringBuilder();
        StringBuilder people = new StringBuilder();
        for (int i = 0; i < 8; i++) {
            doors.append("door d").append((char) ('a' + i)).append(" at 1 ").append(i).append(" high 1;");
        }
        for (int i = 0; i < 4; i++) {
            lamps.append("lamp l").append((char) ('a' + i)).append(" at 1 1 lit 0 to 1;");
            people.append("person p").append((char) ('a' + i)).append(" at 1 1;");
        }
        faultIs(0, -1, doors + "" + lamps + people);
        faultIs(2, doors.length(), doors + "door da at 1 1 high 1;");
        faultIs(2, lamps.length(), lamps + "lamp x at 1 1 lit 0 to 1;");
        faultIs(2, people.length(), people + "person x at 1 1;");
    }

    private static void faultsOfShades() {
        faultIs(2, 6, "shade ;");
        faultIs(2, 7, "shade 1");
        faultIs(2, 8, "shade (1;");
        faultIs(2, 7, "shade ();");
        faultIs(2, 8, "shade 1 2;");
        faultIs(2, 7, "shade 1);");
        faultIs(2, 6, "shade +1;");
        faultIs(2, 8, "shade 1+not 1;");
        faultIs(2, 9, "shade not;");
        faultIs(2, 11, "shade 1 or or 1;");
        faultIs(2, 12, "shade 1 and ;");
        faultIs(2, 6, "shade night;");
        faultIs(0, -1, "shade (((((((1)))))));");
        faultIs(0, -1, "shade not not not not not not not 1;");
        faultIs(0, -1, "shade not (not (not (not 1<2)));");
        faultIs(2, 25, "shade not (not (not (not (1))));");
        faultIs(2, 25, "shade not (not (not (not not 1)));");
        String ones = "shade 1" + "+1".repeat(29);
        faultIs(0, -1, ones + ";");
        faultIs(2, ones.length() + 1, ones + "+1;");
        faultIs(2, ones.length() + 1, ones + "+(1);");
        faultIs(2, ones.length() + 4, ones + " or 1;");
        faultIs(2, ones.length() + 4, ones + " or (1);");
        String bracketed = "shade (1)" + "+(1)".repeat(14);
        faultIs(0, -1, bracketed + ";");
        faultIs(2, bracketed.length() + 1, bracketed + "*hour;");
    }

    private static void faults() {
        promise = 5;
        faultsOfTokens();
        faultsOfLines();
        faultsOfCounts();
        faultsOfShades();
        ShadowDoors x = new ShadowDoors();
        tell(x, "cloud 101;");
        due(4, x.fault(0), "fault(0)");
        due(6, x.fault(1), "fault(1)");
        due(-1, x.fault(2), "fault(2)");
        due(-1, x.fault(-1), "fault(-1)");
        tell(x, "cloud 100;");
        due(0, x.fault(0), "fault(0) of the latest");
        due(-1, x.fault(1), "fault(1) of the latest");
    }

    private static void doors() {
        promise = 6;
        ShadowDoors x = told(STREET);
        dueAll("door", () -> 1, () -> x.door(0, 0), () -> 2, () -> x.door(0, 1), () -> 1, () -> x.door(0, 2), () -> 0, () -> x.door(0, 3),
                () -> 9, () -> x.door(1, 0), () -> 1, () -> x.door(1, 1), () -> 0, () -> x.door(1, 2), () -> -1, () -> x.door(2, 0),
                () -> -1, () -> x.door(-1, 0), () -> -1, () -> x.door(0, 4), () -> -1, () -> x.door(0, -1));
        hours(x, 8);
        due(1, x.door(1, 2), "open from 8 on");
        x.shut(1);
        due(0, x.door(1, 2), "shut is not open");
        due(1, x.door(1, 3), "shut");
        x.shut(1);
        hours(x, 11);
        due(1, x.door(1, 2), "open in 19");
        hours(x, 1);
        due(0, x.door(1, 2), "not open in 20");
    }

    private static void lamps() {
        promise = 7;
        ShadowDoors x = told(STREET);
        dueAll("lamp", () -> 0, () -> x.lamp(0, 0), () -> 0, () -> x.lamp(0, 1), () -> 0, () -> x.lamp(0, 2), () -> -1, () -> x.lamp(1, 0),
                () -> -1, () -> x.lamp(-1, 1), () -> -1, () -> x.lamp(0, 3), () -> -1, () -> x.lamp(0, -1));
        hours(x, 18);
        due(1, x.lamp(0, 1), "lit from 18 on");
        x.out(0);
        due(0, x.lamp(0, 1), "one that is out is not lit");
        due(1, x.lamp(0, 2), "out");
        x.out(0);
        hours(x, 5);
        due(1, x.lamp(0, 1), "lit in 23");
        hours(x, 1);
        due(0, x.lamp(0, 1), "not lit in 0");
    }

    private static void people() {
        promise = 8;
        ShadowDoors x = told(STREET);
        dueAll("person", () -> 5, () -> x.person(0, 0), () -> 0, () -> x.person(0, 1), () -> 8, () -> x.person(1, 0), () -> -1,
                () -> x.person(2, 0), () -> -1, () -> x.person(-1, 0), () -> -1, () -> x.person(0, 2), () -> -1, () -> x.person(0, -1));
        x.go(0, 6);
        due(6, x.person(0, 0), "where he went");
        due(1, x.person(0, 1), "gone");
        due(0, x.person(1, 1), "the other is not gone");
        x.hour();
        due(0, x.person(0, 1), "not gone in the next hour");
    }

    private static void valueIs(int want, String formula) {
        ShadowDoors x = told("door a at 0 0 high 3;shade " + formula + ";");
        hours(x, 29);
        due(want, x.shade(0, 0), formula);
    }

    private static void shade() {
        promise = 9;
        valueIs(3, "height");
        valueIs(5, "hour");
        valueIs(1, "date");
        valueIs(9999, "9999");
        valueIs(-3, "(0-7)/2");
        valueIs(-1, "(0-7)%2");
        valueIs(1, "7%(0-2)");
        valueIs(0, "7/(3-height)");
        valueIs(0, "7%0");
        valueIs(9999 * 9999 * 9999, "9999*9999*9999");
        valueIs(Integer.MIN_VALUE, "2048*1024*1024/(0-1)");
        valueIs(0, "2048*1024*1024%(0-1)");
        valueIs(14, "2+3*4");
        valueIs(2, "9-4-3");
        valueIs(6, "8/4*3");
        valueIs(1, "2<3");
        valueIs(0, "3<3");
        valueIs(1, "4>3");
        valueIs(1, "1+2=3");
        valueIs(1, "5 and 7");
        valueIs(0, "5 and 0");
        valueIs(1, "0 or 9");
        valueIs(0, "0 or 0");
        valueIs(1, "1 or 0 and 0");
        valueIs(0, "(1 or 0) and 0");
        valueIs(0, "not 5");
        valueIs(1, "not 0");
        valueIs(1, "not not 5");
        valueIs(0, "not 1<2");
        valueIs(1, "not 1 and 0 or 2");
        valueIs(6, "(hour>4)*2*height");
        valueIs(1, ("not not not not not not not 1 or ").repeat(29) + "not not not not not not not 0");
        ShadowDoors x = told("door a at 0 0 high 3;shade 100*date+hour;");
        due(0, x.shade(0, 0), "shade(0, 0)");
        due(23, x.shade(0, 23), "shade(0, 23)");
        due(100, x.shade(0, 24), "shade(0, 24)");
        due(200, x.shade(0, 48), "shade(0, 48)");
        x.eclipse();
        due(123, x.shade(0, 47), "not in an eclipse");
        dueAll("one can't be", () -> -1000000, () -> x.shade(0, 49), () -> -1000000, () -> x.shade(0, -1), () -> -1000000,
                () -> x.shade(1, 0), () -> -1000000, () -> x.shade(-1, 0));
        due(0, told("door a at 0 0 high 3;").shade(0, 5), "shade that is not told");
    }

    private static void shadow() {
        promise = 10;
        ShadowDoors x = told("size 8 by 8;wall 5 3;door a at 3 3 high 2;shade hour-10;");
        due(bits(24, 25, 26), x.shadow(0, 0), "to the left, to the quarter's end");
        due(bits(26), x.shadow(0, 9), "one to the left");
        due(0, x.shadow(0, 10), "none");
        due(bits(28), x.shadow(0, 11), "one to the right");
        due(bits(28), x.shadow(0, 12), "no wall is in a shadow");
        due(bits(28, 30), x.shadow(0, 13), "it goes on behind the wall");
        due(bits(28, 30, 31), x.shadow(0, 20), "to the right, to the quarter's end");
        due(0, x.shadow(0, 49), "shadow(0, 49)");
        due(0, x.shadow(0, -1), "shadow(0, -1)");
        due(0, x.shadow(1, 0), "shadow(1, 0)");
        due(0, x.shadow(-1, 0), "shadow(-1, 0)");
        x.eclipse();
        due(0, x.shadow(0, 0), "in an eclipse");
        ShadowDoors wide = told("size 8 by 8;door a at 7 7 high 2;shade 0-9999*9999*20;");
        due(bits(56, 57, 58, 59, 60, 61, 62), wide.shadow(0, 0), "far below 0");
        ShadowDoors l = told("size 8 by 8;wall 3 6;door a at 3 3 high 2;lamp up at 3 0 lit 0 to 1;lamp down at 3 5 lit 1 to 2;"
                + "lamp left at 0 3 lit 2 to 3;lamp right at 7 3 lit 3 to 5;shade 0;");
        due(bits(35, 43), l.shadow(0, 0), "away from a lamp above");
        due(bits(19, 11), l.shadow(0, 1), "away from a lamp below");
        due(bits(28, 29), l.shadow(0, 2), "away from a lamp to the left");
        due(bits(26, 25), l.shadow(0, 3), "away from a lamp to the right");
        due(bits(26, 25), l.shadow(0, 4), "lit till 5");
        due(0, l.shadow(0, 5), "no lamp is lit");
        l.eclipse();
        due(bits(35, 43), l.shadow(0, 0), "lamps burn in an eclipse");
        l.out(0);
        due(0, l.shadow(0, 0), "a lamp that is out");
        ShadowDoors w = told("size 8 by 1;wall 2 0 6 0;door a at 4 0 high 3;lamp l at 0 0 lit 0 to 24;lamp m at 4 0 lit 0 to 24;lamp n at 3 0 lit 0 to 1;"
                + "shade 0-1;");
        due(bits(3, 5, 7), w.shadow(0, 0), "by shade and by a lamp, a wall on the way");
        due(bits(3), w.shadow(0, 1), "a wall between, a lamp in its cell");
        due(0, told("door a at 1 1 high 9;lamp l at 0 0 lit 0 to 24;").shadow(0, 0), "neither in its row nor in its column");
        due(bits(1, 7), told("door a at 1 2 high 9;lamp l at 1 3 lit 0 to 24;").shadow(0, 0), "no farther than the quarter");
    }

    private static void shades() {
        promise = 11;
        ShadowDoors x = told("size 4 by 2;door a at 0 0 high 2;door b at 0 1 high 1 open 5 to 9;shade height;");
        due(bits(1, 2, 5), x.shades(0, false), "of all");
        due(bits(1, 2), x.shades(0, true), "of open ones");
        due(bits(1, 2, 5), x.shades(5, true), "of open ones in 5");
        due(bits(1, 2), x.shades(9, true), "of open ones in 9");
        due(bits(1, 2, 5), x.shades(48, false), "in 48");
        x.shut(0);
        due(0, x.shades(0, true), "shut ones are not open");
        due(bits(1, 2, 5), x.shades(0, false), "shut ones have shadows");
        due(0, x.shades(49, false), "shades(49)");
        due(0, x.shades(-1, false), "shades(-1)");
    }

    private static void moves() {
        promise = 12;
        ShadowDoors x = told(ISLANDS);
        due(bits(0, 2, 4), x.moves(0, 0), "door to shadow and to a door whose shadow crosses");
        due(bits(0, 2, 4), x.moves(2, 0), "shadow to doors");
        due(bits(0, 2, 4), x.moves(4, 0), "the other way about");
        due(bits(0, 2), x.moves(0, 1), "not to a door that is not open");
        due(bits(4), x.moves(4, 1), "not at a door that is not open");
        due(bits(0, 2), x.moves(2, 1), "to the open one alone");
        due(0, x.moves(1, 0), "a wall");
        due(0, x.moves(5, 0), "moves(5, 0)");
        due(0, x.moves(-1, 0), "moves(-1, 0)");
        due(0, x.moves(0, 49), "moves(0, 49)");
        due(0, x.moves(0, -1), "moves(0, -1)");
        due(bits(0, 2), x.moves(0, 48 - 24 + 1), "moves(0, 25)");
        due(bits(0, 2, 4), x.moves(0, 48), "moves(0, 48)");
        x.shut(0);
        due(bits(0), x.moves(0, 0), "a shut door");
        ShadowDoors y = told("size 3 by 3;wall 1 0;");
        due(bits(1 + 3, 3, 5, 7), y.moves(4, 0), "next cells but the wall");
        due(bits(2, 5), y.moves(2, 0), "none round the edge");
        due(bits(3, 0, 4, 6), y.moves(3, 0), "at the left edge");
    }

    private static void going() {
        promise = 13;
        ShadowDoors x = told(ISLANDS + "person q at 4 0;");
        due(-1, x.go(0, 1), "to a wall");
        due(-1, x.go(0, 5), "out of the quarter");
        due(-1, x.go(0, -1), "go(0, -1)");
        due(-1, x.go(2, 2), "no such one");
        due(-1, x.go(-1, 2), "no such one");
        due(0, x.about(10), "nothing was done");
        due(2, x.go(0, 4), "by a shadow to its door");
        due(-1, x.go(0, 4), "he went already");
        due(0, x.go(1, 4), "one stays");
        due(-1, x.go(1, 4), "he stayed already");
        due(2, x.about(10), "two acts");
        x.hour();
        due(-1, x.go(0, 2), "the door is not open now");
        due(0, x.go(0, 4), "he may go again");
        ShadowDoors y = told("size 3 by 1;door a at 0 0 high 2;person p at 0 0;shade height;");
        due(1, y.go(0, 1), "next door, though in the shadow too");
        y.undo();
        due(2, y.go(0, 2), "by a shadow");
    }

    private static void anHour() {
        promise = 14;
        ShadowDoors x = told(STREET);
        for (int i = 1; i <= 50; i++) {
            due(i, x.hour(), "hour()");
            due(i % 24, x.about(6), "the hour");
            due(i / 24, x.about(7), "the date");
        }
        // An object is used for 512 calls: 2,000 hours are looked at all the same.
        ShadowDoors y = new ShadowDoors();
        for (int i = 1; i <= 2000; i++) {
            due(i, y.hour(), "hour()");
        }
        due(-1, y.hour(), "hour() behind 2,000");
        due(2000, y.about(8), "hours that were");
        due(40, y.about(10), "acts kept");
        due(true, y.undo(), "undo()");
        due(2000, y.hour(), "hour()");
    }

    private static void shutting() {
        promise = 15;
        ShadowDoors x = told(STREET);
        dueAll("shut", () -> 1, () -> x.shut(1), () -> 1, () -> x.door(1, 3), () -> 0, () -> x.door(0, 3), () -> 0, () -> x.shut(1), () -> 0,
                () -> x.door(1, 3), () -> -1, () -> x.shut(2), () -> -1, () -> x.shut(-1), () -> 2, () -> x.about(10));
    }

    private static void puttingOut() {
        promise = 16;
        ShadowDoors x = told(STREET);
        dueAll("out", () -> 1, () -> x.out(0), () -> 1, () -> x.lamp(0, 2), () -> 0, () -> x.shadow(0, 18), () -> 0, () -> x.out(0),
                () -> 12, () -> x.shadow(0, 18), () -> -1, () -> x.out(1), () -> -1, () -> x.out(-1), () -> 2, () -> x.about(10));
    }

    private static void eclipses() {
        promise = 17;
        ShadowDoors x = told(STREET);
        due(true, x.eclipse(), "eclipse()");
        due(1, x.about(9), "about(9)");
        due(0, x.shadow(0, 9), "no shade");
        due(false, x.eclipse(), "eclipse() again");
        due(0, x.about(9), "about(9)");
        due(1, x.shadow(0, 9), "shade again");
        due(2, x.about(10), "two acts");
    }

    private static void undoing() {
        promise = 18;
        ShadowDoors x = told(STREET);
        due(false, x.undo(), "undo() of nothing");
        x.go(0, 0);
        x.hour();
        x.shut(0);
        x.out(0);
        x.eclipse();
        due(5, x.about(10), "five acts");
        due(true, x.undo(), "undo()");
        due(0, x.about(9), "no eclipse");
        due(true, x.undo(), "undo()");
        due(0, x.lamp(0, 2), "not out");
        due(true, x.undo(), "undo()");
        due(0, x.door(0, 3), "not shut");
        due(true, x.undo(), "undo()");
        due(0, x.about(8), "the hour is taken back");
        due(1, x.person(0, 1), "he is gone in it");
        due(-1, x.go(0, 5), "so he can't go");
        due(true, x.undo(), "undo()");
        due(5, x.person(0, 0), "he is where he was");
        due(0, x.person(0, 1), "not gone");
        due(false, x.undo(), "undo() of nothing");
        hours(x, 45);
        due(40, x.about(10), "40 are kept");
        for (int i = 0; i < 40; i++) {
            due(true, x.undo(), "undo()");
        }
        due(false, x.undo(), "the oldest went");
        due(5, x.about(8), "hours");
        due(40, x.about(11), "to be redone");
    }

    private static void redoing() {
        promise = 19;
        ShadowDoors x = told(STREET);
        due(false, x.redo(), "redo() of nothing");
        x.go(0, 0);
        x.hour();
        x.undo();
        x.undo();
        due(2, x.about(11), "two to be redone");
        due(true, x.redo(), "redo()");
        due(0, x.person(0, 0), "he went again");
        due(1, x.person(0, 1), "he is gone");
        due(-1, x.go(0, 0), "what does nothing");
        due(1, x.about(11), "is no act");
        due(true, x.redo(), "redo()");
        due(1, x.about(8), "the hour went by again");
        due(false, x.redo(), "redo() of nothing");
        x.undo();
        x.eclipse();
        due(false, x.redo(), "another act came");
        due(0, x.about(11), "none to be redone");
    }

    private static void soonest() {
        promise = 20;
        ShadowDoors x = told("size 3 by 3;wall 1 1;");
        due(4, x.soonest(0, 8), "soonest(0, 8)");
        dueAll("the first of like ones", () -> 1, () -> x.lies(0), () -> 2, () -> x.lies(1), () -> 5, () -> x.lies(2), () -> 8, () -> x.lies(3),
                () -> -1, () -> x.lies(4));
        due(0, x.soonest(8, 8), "soonest(8, 8)");
        due(0, x.about(16), "nothing lies there");
        x.soonest(0, 1);
        due(-1, x.soonest(0, 4), "to a wall");
        due(0, x.about(16), "nothing lies there");
        dueAll("one can't be", () -> -1, () -> x.soonest(4, 0), () -> -1, () -> x.soonest(9, 0), () -> -1, () -> x.soonest(0, 9), () -> -1,
                () -> x.soonest(-1, 0), () -> -1, () -> x.soonest(0, -1));
        ShadowDoors y = told("size 3 by 1;wall 1 0;door a at 0 0 high 1;shade (date=2)*2;");
        due(-1, y.soonest(0, 2), "49 hours are too many");
        y.hour();
        due(48, y.soonest(0, 2), "48 hours");
        due(0, y.lies(46), "waiting");
        due(2, y.lies(47), "there");
        due(48, y.about(16), "48 lie there");
        ShadowDoors w = told("size 3 by 3;wall 1 0 1 1 1 2;door a at 0 0 high 1;door b at 2 2 high 1;shade hour-1;");
        due(6, w.soonest(3, 8), "soonest(3, 8)");
        dueAll("waiting where the number is least", () -> 0, () -> w.lies(0), () -> 0, () -> w.lies(1), () -> 0, () -> w.lies(2), () -> 2,
                () -> w.lies(3), () -> 5, () -> w.lies(4), () -> 8, () -> w.lies(5));
        ShadowDoors g = told(STREET);
        g.go(0, 6);
        due(1, g.soonest(6, 1), "one who went may go again there");
        due(1, g.person(0, 1), "nothing is done");
        due(6, g.person(0, 0), "nothing is done");
    }

    private static void reaching() {
        promise = 21;
        ShadowDoors x = told(ISLANDS);
        dueAll("reach", () -> bits(2), () -> x.reach(2, 0), () -> bits(0, 2, 4), () -> x.reach(2, 1), () -> bits(0, 2, 4), () -> x.reach(2, 48),
                () -> 0, () -> x.reach(1, 1), () -> 0, () -> x.reach(5, 1), () -> 0, () -> x.reach(-1, 1), () -> 0, () -> x.reach(2, 49), () -> 0,
                () -> x.reach(2, -1));
        x.hour();
        due(bits(0, 2), x.reach(2, 1), "in an hour in which one is not open");
        due(bits(0, 2), x.reach(2, 23), "before midnight");
        due(bits(0, 2, 4), x.reach(2, 24), "behind midnight");
        x.eclipse();
        due(bits(2), x.reach(2, 24), "in an eclipse");
    }

    private static void meeting() {
        promise = 22;
        ShadowDoors x = told("size 5 by 3;wall 2 0 2 1 2 2;door a at 0 2 high 4;person p at 0 0;person q at 4 2;person r at 0 0;shade (hour>2)*4;");
        dueAll("meet", () -> 4, () -> x.meet(0, 1, 0), () -> 10, () -> x.meet(0, 1, 1), () -> 4, () -> x.meet(1, 0, 0), () -> 0,
                () -> x.meet(0, 2, 0), () -> 0, () -> x.meet(0, 2, 1), () -> -1, () -> x.meet(0, 0, 0), () -> -1, () -> x.meet(0, 3, 0),
                () -> -1, () -> x.meet(-1, 0, 0), () -> -1, () -> x.meet(0, 1, 2), () -> -1, () -> x.meet(0, 1, -1));
        x.shut(0);
        due(-1, x.meet(0, 1, 0), "they can't");
        ShadowDoors y = told("size 4 by 1;person p at 0 0;person q at 3 0;");
        due(2, y.meet(0, 1, 0), "half way");
        due(1, y.meet(0, 1, 1), "the least such cell");
        ShadowDoors z = told("size 3 by 1;wall 1 0;door a at 0 0 high 1;person p at 0 0;person q at 2 0;shade (date=2)*2;");
        due(-1, z.meet(0, 1, 0), "49 hours are too many");
        z.hour();
        due(48, z.meet(0, 1, 0), "48 hours");
        due(0, z.meet(0, 1, 1), "at the door");
    }

    private static void barring() {
        promise = 23;
        ShadowDoors x = told("size 3 by 3;wall 1 0 1 1 1 2;door a at 0 0 high 1;door b at 2 2 high 1;shade hour-1;");
        dueAll("barred", () -> bits(0, 3, 6, 5, 8), () -> x.barred(2, 0), () -> bits(0, 3, 6), () -> x.barred(2, 3), () -> 0, () -> x.barred(2, 4),
                () -> 0, () -> x.barred(2, 48), () -> 0, () -> x.barred(1, 3), () -> 0, () -> x.barred(9, 3), () -> 0, () -> x.barred(-1, 3),
                () -> 0, () -> x.barred(2, 49), () -> 0, () -> x.barred(2, -1));
        ShadowDoors y = told("size 4 by 1;wall 1 0;door a at 0 0 high 1;shade (hour=1)*3;");
        due(bits(0), y.barred(3, 1), "in the first hour no shadow");
        due(0, y.barred(3, 2), "in the second one");
        due(bits(2, 3), y.barred(0, 1), "the other way about");
    }

    private static void longest() {
        promise = 24;
        ShadowDoors x = told("size 8 by 1;wall 5 0;door a at 3 0 high 1;shade hour%12;");
        dueAll("longest", () -> 4, () -> x.longest(0, 0), () -> 3, () -> x.longest(0, 1), () -> -1, () -> x.longest(1, 0), () -> -1,
                () -> x.longest(-1, 0), () -> -1, () -> x.longest(0, 2), () -> -1, () -> x.longest(0, -1));
        hours(x, 5);
        due(0, x.longest(0, 0), "now");
        x.eclipse();
        due(0, x.longest(0, 0), "of like ones the first");
        due(0, x.longest(0, 1), "no cells");
        ShadowDoors y = told("size 3 by 1;door a at 0 0 high 1 open 0 to 1;shade 24*date+hour=23;");
        due(23, y.longest(0, 0), "the 24th hour, open or not");
        ShadowDoors z = told("size 3 by 1;door a at 0 0 high 1;shade 24*date+hour=24;");
        due(0, z.longest(0, 1), "not the 25th hour");
    }

    private static void crossing() {
        promise = 25;
        ShadowDoors x = told("size 6 by 1;door a at 0 0 high 3;door b at 5 0 high 1 open 9 to 12;lamp l at 5 0 lit 0 to 1;shade (height-2)*(hour%24-8);");
        dueAll("cross", () -> 11, () -> x.cross(0, 1, 0), () -> 2, () -> x.cross(1, 0, 1), () -> -1, () -> x.cross(0, 0, 0), () -> -1,
                () -> x.cross(0, 2, 0), () -> -1, () -> x.cross(-1, 0, 0), () -> -1, () -> x.cross(0, 1, 2), () -> -1, () -> x.cross(0, 1, -1));
        x.shut(1);
        due(-1, x.cross(0, 1, 0), "both are to be open");
        ShadowDoors y = told("size 3 by 1;door a at 0 0 high 1;door b at 2 0 high 3;shade (date=2)*(2-height);");
        due(48, y.cross(0, 1, 0), "48 hours");
        ShadowDoors z = told("size 3 by 1;door a at 0 0 high 1;door b at 2 0 high 3;shade (date*24+hour=49)*(2-height);");
        due(-1, z.cross(0, 1, 0), "49 hours are too many");
    }

    private static void rooms() {
        promise = 26;
        ShadowDoors x = told("size 7 by 1;wall 1 0 3 0 5 0;door a at 0 0 high 3;door b at 4 0 high 1;shade (hour=1)*(height-2)*2+(hour=2)*(height>1)*6;");
        dueAll("rooms", () -> 4, () -> x.rooms(0), () -> 2, () -> x.rooms(1), () -> 1, () -> x.rooms(2), () -> 4, () -> x.rooms(48), () -> -1,
                () -> x.rooms(49), () -> -1, () -> x.rooms(-1));
        x.shut(0);
        due(3, x.rooms(1), "a shut door joins none");
        due(4, told("size 3 by 3;wall 1 0 0 1 2 1 1 2 1 1;").rooms(0), "corners are not next to one another");
    }

    private static void hearing() {
        promise = 27;
        ShadowDoors x = told("size 7 by 1;wall 1 0 3 0 5 0;door a at 0 0 high 3;door b at 4 0 high 1;shade (hour=1)*(height-2)*2+(hour=2)*(height>1)*6;");
        dueAll("hears", () -> 0, () -> x.hears(0, 2, 0), () -> 1, () -> x.hears(0, 2, 1), () -> 1, () -> x.hears(4, 0, 1), () -> 0,
                () -> x.hears(0, 6, 1), () -> 1, () -> x.hears(2, 6, 2), () -> 1, () -> x.hears(2, 2, 0), () -> -1, () -> x.hears(1, 0, 0),
                () -> -1, () -> x.hears(0, 1, 0), () -> -1, () -> x.hears(7, 0, 0), () -> -1, () -> x.hears(0, -1, 0), () -> -1,
                () -> x.hears(0, 2, 49), () -> -1, () -> x.hears(0, 2, -1));
    }

    private static final String KEPT = "size 7 by 5;wall 3 0 3 1 3 2 3 3 3 4;door a at 2 0 high 1;door b at 2 1 high 1;door c at 2 2 high 1;door d at 2 3 high 1;"
            + "shade (hour>1)*(hour<4)*2+(hour=3)*2+(hour>9)*4;";

    private static void keeping() {
        promise = 28;
        ShadowDoors x = told(KEPT);
        dueAll("keep", () -> 0, () -> x.keep(0, 6, 3, 0), () -> 0, () -> x.keep(0, 6, 3, 1), () -> 1, () -> x.keep(0, 6, 4, 0), () -> 1,
                () -> x.keep(0, 6, 4, 1), () -> 2, () -> x.keep(0, 6, 5, 0), () -> 3, () -> x.keep(0, 6, 5, 1), () -> -1,
                () -> x.keep(0, 6, 24, 0), () -> -1, () -> x.keep(0, 6, 0, 0), () -> -1, () -> x.keep(0, 6, 25, 0), () -> -1,
                () -> x.keep(0, 6, 4, 2), () -> -1, () -> x.keep(0, 6, 4, -1), () -> -1, () -> x.keep(3, 6, 4, 0), () -> -1,
                () -> x.keep(0, 3, 4, 0), () -> -1, () -> x.keep(0, 35, 4, 0), () -> -1, () -> x.keep(-1, 6, 4, 0), () -> -1,
                () -> x.keep(5, 5, 4, 0));
        x.shut(3);
        due(3, x.keep(0, 6, 24, 0), "besides the one that is shut");
        due(7, x.keep(0, 6, 24, 1), "which");
        x.shut(0);
        due(6, x.keep(0, 6, 24, 1), "besides those that are");
        due(0, x.about(8), "nothing is done");
        due(0, x.door(1, 3), "nothing is done");
    }

    private static void freeing() {
        promise = 29;
        ShadowDoors x = told("size 8 by 2;wall 2 0 5 0 2 1 5 1;door a at 1 0 high 3;door b at 4 0 high 3;lamp k at 0 1 lit 0 to 24;lamp l at 0 0 lit 20 to 24;"
                + "lamp m at 3 0 lit 5 to 6;lamp n at 0 0 lit 0 to 1;");
        x.out(3);
        dueAll("free", () -> 0, () -> x.free(0, 8, 1, 0), () -> 1, () -> x.free(0, 4, 2, 0), () -> 2, () -> x.free(0, 4, 2, 1), () -> 2,
                () -> x.free(0, 7, 3, 0), () -> 6, () -> x.free(0, 7, 3, 1), () -> -1, () -> x.free(0, 7, 2, 0), () -> 1,
                () -> x.free(0, 7, 6, 0), () -> 2, () -> x.free(0, 7, 6, 1), () -> -1, () -> x.free(0, 7, 0, 0), () -> -1,
                () -> x.free(0, 7, 25, 0), () -> 0, () -> x.free(7, 7, 1, 0), () -> -1, () -> x.free(0, 7, 3, 2), () -> -1,
                () -> x.free(0, 7, 3, -1), () -> -1, () -> x.free(2, 7, 3, 0), () -> -1, () -> x.free(0, 2, 3, 0), () -> -1,
                () -> x.free(16, 7, 3, 0), () -> -1, () -> x.free(0, -1, 3, 0));
        x.out(1);
        due(2, x.free(0, 4, 2, 1), "out or not");
        x.out(3);
        due(0, x.shadow(0, 1), "nothing is done");
        due(1, x.lamp(1, 2), "nothing is done");
    }

    private static void surest() {
        promise = 30;
        ShadowDoors x = told(ISLANDS);
        dueAll("surest", () -> 3, () -> x.surest(0, 4, 1, 0), () -> 4, () -> x.surest(0, 4, 1, 1), () -> 3, () -> x.surest(0, 2, 1, 0), () -> 15,
                () -> x.surest(0, 2, 2, 0), () -> 16, () -> x.surest(0, 2, 2, 1), () -> 65535, () -> x.surest(0, 2, 8, 0), () -> 65536,
                () -> x.surest(0, 2, 8, 1), () -> 1, () -> x.surest(4, 4, 3, 0), () -> 1, () -> x.surest(4, 4, 3, 1), () -> -1,
                () -> x.surest(0, 2, 9, 0), () -> -1, () -> x.surest(0, 2, 0, 0), () -> -1, () -> x.surest(0, 2, 1, 2), () -> -1,
                () -> x.surest(0, 2, 1, -1), () -> -1, () -> x.surest(1, 2, 1, 0), () -> -1, () -> x.surest(0, 3, 1, 0), () -> -1,
                () -> x.surest(5, 2, 1, 0), () -> -1, () -> x.surest(0, -1, 1, 0));
        x.eclipse();
        due(0, x.surest(0, 4, 8, 0), "0 of 1");
        due(1, x.surest(0, 4, 8, 1), "0 of 1");
        // The cloud is seen ahead of the move: in the first hour by the shadow if it is clear, else on foot.
        ShadowDoors y = told("size 4 by 1;door a at 0 0 high 1;shade 3;cloud 1;");
        dueAll("surest", () -> 99, () -> y.surest(0, 3, 1, 0), () -> 100, () -> y.surest(0, 3, 1, 1), () -> 9999, () -> y.surest(0, 3, 2, 0),
                () -> 1, () -> y.surest(0, 3, 3, 0), () -> 1, () -> y.surest(0, 3, 3, 1));
        ShadowDoors z = told("size 4 by 1;wall 1 0;door a at 0 0 high 1;shade 3;cloud 99;");
        due(10000000000000000L - 9227446944279201L, z.surest(0, 3, 8, 0), "1 less 99 to the eighth");
        due(10000000000000000L, z.surest(0, 3, 8, 1), "100 to the eighth");
        ShadowDoors c = told("size 4 by 1;wall 1 0;door a at 0 0 high 1;shade 3;cloud 100;");
        due(0, c.surest(0, 3, 8, 0), "always cloudy");
        ShadowDoors h = told("size 4 by 1;wall 1 0;door a at 0 0 high 1;shade 3;cloud 42;");
        due(29, h.surest(0, 3, 1, 0), "in lowest terms");
        due(50, h.surest(0, 3, 1, 1), "in lowest terms");
    }

    private static void dates() {
        promise = 31;
        ShadowDoors x = told("size 3 by 1;wall 1 0;door a at 0 0 high 1;shade (date>9)*(date<20)*(hour=1)*2;");
        dueAll("dates", () -> 0, () -> x.dates(0, 2, 1, 0), () -> -1, () -> x.dates(0, 2, 1, 1), () -> -1, () -> x.dates(0, 2, 1, 2), () -> 10,
                () -> x.dates(0, 2, 2, 0), () -> 10, () -> x.dates(0, 2, 2, 1), () -> 19, () -> x.dates(0, 2, 2, 2), () -> 100,
                () -> x.dates(0, 0, 2, 0), () -> 0, () -> x.dates(0, 0, 2, 1), () -> 99, () -> x.dates(0, 0, 2, 2), () -> -1,
                () -> x.dates(0, 2, 0, 0), () -> -1, () -> x.dates(0, 2, 25, 0), () -> -1, () -> x.dates(0, 2, 2, 3), () -> -1,
                () -> x.dates(0, 2, 2, -1), () -> -1, () -> x.dates(1, 2, 2, 0), () -> -1, () -> x.dates(0, 1, 2, 0), () -> -1,
                () -> x.dates(3, 2, 2, 0), () -> -1, () -> x.dates(0, -1, 2, 0));
        hours(x, 24 * 2 + 2);
        due(9, x.dates(0, 2, 24, 1), "into the next date");
        due(18, x.dates(0, 2, 24, 2), "from this hour on");
        due(0, x.dates(0, 2, 23, 0), "one hour too few");
        due(2, x.about(7), "nothing is done");
        x.eclipse();
        due(0, x.dates(0, 2, 24, 0), "in an eclipse");
        ShadowDoors y = told("size 3 by 1;wall 1 0;door a at 0 0 high 1;shade (date=100)*2+(date=99 and hour=23)*2;");
        hours(y, 20);
        due(99, y.dates(0, 2, 5, 1), "date 100 comes behind 99");
        due(1, y.dates(0, 2, 5, 0), "one date");
    }

    private static void lying() {
        promise = 32;
        ShadowDoors x = told("size 4 by 1;");
        due(-1, x.lies(0), "lies(0) of nothing");
        x.soonest(3, 0);
        dueAll("lies", () -> 2, () -> x.lies(0), () -> 1, () -> x.lies(1), () -> 0, () -> x.lies(2), () -> -1, () -> x.lies(3), () -> -1,
                () -> x.lies(-1), () -> -1, () -> x.lies(Integer.MAX_VALUE));
        x.hour();
        x.reach(0, 4);
        due(3, x.about(16), "they stay");
    }

    private static final String SEEN = "size 6 by 1;wall 5 0;shade (hour-12)*height/2;";

    private static void looking() {
        promise = 33;
        ShadowDoors x = told(SEEN);
        dueAll("look", () -> -1, () -> x.look(24, 0, true), () -> -1, () -> x.look(-1, 0, true), () -> -1, () -> x.look(0, 5, true), () -> -1,
                () -> x.look(0, 6, true), () -> -1, () -> x.look(0, -1, true), () -> 0, () -> x.about(12), () -> 0, () -> x.look(23, 4, false));
        for (int i = 1; i < 30; i++) {
            due(i, x.look(0, 0, false), "look");
        }
        due(-1, x.look(0, 0, false), "there are 30");
        x.untell(0);
        due(-1, x.look(0, 0, false), "there are 30, one untold");
        due(30, x.about(12), "looks");
    }

    private static void untelling() {
        promise = 34;
        ShadowDoors x = told(SEEN);
        due(false, x.untell(0), "untell(0) of none");
        x.look(14, 3, true);
        due(false, x.untell(-1), "untell(-1)");
        due(false, x.untell(1), "untell(1)");
        due(true, x.untell(0), "untell(0) at the same time");
        due(20, x.fit(0), "it does not count");
        due(false, x.untell(0), "untell(0) again");
        due(1, x.about(12), "it is a look still");
        x.look(14, 3, true);
        x.later(7);
        x.untell(1);
        due(9, x.fit(6), "as known before");
        due(20, x.fit(7), "as known then");
    }

    private static void laters() {
        promise = 35;
        ShadowDoors x = new ShadowDoors();
        dueAll("later", () -> 0, () -> x.later(0), () -> 1000, () -> x.later(1000), () -> -1, () -> x.later(1001), () -> -1, () -> x.later(-1),
                () -> 1000, () -> x.about(13));
        for (int i = 2; i <= 100; i++) {
            due(1000 * i, x.later(1000), "later(1000)");
        }
        due(-1, x.later(1), "above 100,000");
        due(100000, x.later(0), "later(0)");
        tell(x, SEEN);
        due(100000, x.about(13), "the time stays");
    }

    private static void fitting() {
        promise = 36;
        ShadowDoors x = told(SEEN);
        due(20, x.fit(0), "cells that are no walls, four heights");
        x.look(14, 3, true);
        // In hour 14 a shadow is as long as the door is high, to the right.
        due(9, x.fit(0), "fit(0)");
        due(20, x.fit(-1), "before it was told");
        due(9, x.fit(Integer.MAX_VALUE), "long behind");
        x.look(14, 4, false);
        due(3, x.fit(0), "its end is seen");
        x.look(10, 0, true);
        due(1, x.fit(0), "the other way about");
        x.look(12, 0, true);
        due(0, x.fit(0), "none");
        x.eclipse();
        x.untell(3);
        due(1, x.fit(0), "an eclipse now is none then");
    }

    private static void placing() {
        promise = 37;
        ShadowDoors x = told(SEEN);
        due(bits(0, 1, 2, 3, 4), x.places(0), "all");
        x.look(14, 3, true);
        due(bits(0, 1, 2), x.places(0), "left of it");
        x.look(14, 4, false);
        x.later(1);
        x.look(10, 0, true);
        due(bits(1), x.places(1), "places(1)");
        due(bits(0, 1, 2), x.places(0), "places(0)");
        x.look(12, 0, true);
        due(0, x.places(1), "none");
    }

    private static void heights() {
        promise = 38;
        ShadowDoors x = told(SEEN);
        due(15, x.heights(0), "all");
        x.look(14, 3, true);
        x.look(14, 4, false);
        due(7, x.heights(0), "of 1, 2, 3");
        x.look(14, 2, true);
        due(6, x.heights(0), "of 2, 3");
        x.look(14, 1, true);
        due(4, x.heights(0), "of 3");
        x.look(12, 0, true);
        due(0, x.heights(0), "none");
    }

    private static void asking() {
        promise = 39;
        ShadowDoors x = told(SEEN);
        x.look(14, 3, true);
        x.look(14, 4, false);
        // Left are (0, 3), (1, 2), (2, 1); in hour 0 each shades all to its left, so cell 0 tells (0, 3) from the others.
        due(0, x.ask(0, 0), "ask(0, 0)");
        due(2, x.ask(1, 0), "ask(1, 0)");
        dueAll("ask", () -> -1, () -> x.ask(2, 0), () -> -1, () -> x.ask(-1, 0));
        x.look(0, 0, true);
        // (1, 2), (2, 1): cell 1 in hour 0.
        due(1, x.ask(0, 0), "ask(0, 0)");
        due(1, x.ask(1, 0), "ask(1, 0)");
        x.look(12, 0, true);
        due(-1, x.ask(0, 0), "none fits");
        due(-1, x.ask(1, 0), "none fits");
        // Before all looks hour 9 is the first in which some cell parts the twenty in halves.
        due(901, x.ask(0, -1), "ask(0, -1)");
        due(10, x.ask(1, -1), "ask(1, -1)");
        ShadowDoors y = told("size 3 by 1;wall 0 0;");
        due(1, y.ask(0, 0), "no look at a wall");
        due(8, y.ask(1, 0), "none is told from another");
        due(1404, asStreet().ask(0, 0), "the street's");
    }

    private static ShadowDoors asStreet() {
        ShadowDoors x = told(STREET);
        x.look(9, 0, true);
        x.look(9, 1, false);
        return x;
    }

    private static void imaging() {
        promise = 40;
        ShadowDoors x = told(STREET);
        dueAll("image", () -> 0, () -> x.image(0), () -> 0, () -> x.image(2), () -> -1, () -> x.image(3), () -> -1, () -> x.image(-1));
        hours(x, 3);
        due(3, x.image(2), "another is kept there");
        due(3, x.about(10), "no act");
        due(0, x.back(0), "back(0)");
        due(3, x.back(2), "back(2)");
    }

    private static void goingBack() {
        promise = 41;
        ShadowDoors x = told(STREET);
        due(-1, x.back(0), "nothing was kept");
        due(-1, x.back(3), "back(3)");
        due(-1, x.back(-1), "back(-1)");
        x.hour();
        x.go(0, 6);
        x.shut(1);
        x.out(0);
        x.eclipse();
        x.image(1);
        x.undo();
        x.shut(0);
        x.hour();
        x.go(1, 3);
        x.undo();
        due(-1, x.back(0), "nothing was kept");
        due(3 + 3, x.about(10), "nothing was done");
        due(1, x.back(1), "back(1)");
        dueAll("as it was", () -> 6, () -> x.person(0, 0), () -> 8, () -> x.person(1, 0), () -> 1, () -> x.person(0, 1), () -> 1,
                () -> x.door(1, 3), () -> 0, () -> x.door(0, 3), () -> 1, () -> x.lamp(0, 2), () -> 1, () -> x.about(9), () -> 1, () -> x.about(8),
                () -> 0, () -> x.about(10), () -> 0, () -> x.about(11));
        due(false, x.undo(), "no acts are kept");
        due(false, x.redo(), "no acts are kept");
        x.hour();
        due(1, x.about(10), "gone on from");
        due(1, x.back(1), "and back again");
    }

    private static void about() {
        promise = 42;
        ShadowDoors x = told(STREET);
        feed(x, "cloud");
        hours(x, 25);
        x.eclipse();
        x.shut(0);
        x.undo();
        x.look(3, 3, false);
        x.look(3, 4, false);
        x.untell(0);
        x.later(9);
        x.soonest(0, 1);
        int[] about = {2, 1, 2, 1, 5, 2, 1, 1, 25, 1, 26, 1, 2, 9, 5, 10, 1};
        for (int what = 0; what < about.length; what++) {
            due(about[what], x.about(what), "about(" + what + ")");
        }
        due(-1, x.about(17), "about(17)");
        due(-1, x.about(-1), "about(-1)");
    }

    public static void main(String[] args) {
        aNewObject();
        feeding();
        ending();
        quarters();
        quarterBehindQuarter();
        faults();
        doors();
        lamps();
        people();
        shade();
        shadow();
        shades();
        moves();
        going();
        anHour();
        shutting();
        puttingOut();
        eclipses();
        undoing();
        redoing();
        soonest();
        reaching();
        meeting();
        barring();
        longest();
        crossing();
        rooms();
        hearing();
        keeping();
        freeing();
        surest();
        dates();
        lying();
        looking();
        untelling();
        laters();
        fitting();
        placing();
        heights();
        asking();
        imaging();
        goingBack();
        about();
        System.out.println(wrong == 0 ? asked + " answers are as due" : wrong + " of " + asked + " answers are not as due");
        if (wrong != 0) {
            System.exit(1);
        }
    }
}
