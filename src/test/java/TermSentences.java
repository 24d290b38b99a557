import java.util.function.Consumer;
import java.util.function.ToLongFunction;

/** The sentences of 'Terms' on shades, shadows, moves, acts, what is found from now on, and looks. */
final class TermSentences extends Sentences {
    /** Two rooms, and a door by which one comes from one to the other; SHADE stands for its formula. */
    private static final String GAP = "size 3 by 1;wall 1 0;door a at 0 0 high 1;shade SHADE;";

    /** A door's shadow by the sun in hour 0 alone. */
    private static final String SUNNY = "size 5 by 1;wall 2 0;door a at 1 0 high 3;person p at 1 0;person q at 4 0;shade (hour=0)*3;";
    /** The same shadow by a lamp; and by one that is lit in hour 23 alone. */
    private static final String LAMPED = "size 5 by 1;wall 2 0;door a at 1 0 high 3;person p at 1 0;person q at 4 0;lamp l at 0 0 lit 0 to 1;";
    private static final String LIT = "size 5 by 1;wall 2 0;door a at 1 0 high 3;lamp l at 0 0 lit 23 to 24;";

    /** What is found by the shadow, and what is found when it is gone: an hour later, or for all hours. */
    private record Found(String call, ToLongFunction<ShadowDoors> asking, long by, long later, long never) {
        void lookAt() {
            due(by, asking.applyAsLong(told(SUNNY)), call + " by the sun");
            due(by, asking.applyAsLong(told(LAMPED)), call + " by a lamp");
            lookBehind(SUNNY, ShadowDoors::hour, later);
            lookBehind(SUNNY, ShadowDoors::eclipse, never);
            lookBehind(LAMPED, ShadowDoors::hour, later);
            lookBehind(LAMPED, town -> town.out(0), never);
        }

        /** Behind an act, behind undo and redo, and behind back, each as if it had been so from the start. */
        private void lookBehind(String text, Consumer<ShadowDoors> act, long want) {
            ShadowDoors x = told(text);
            act.accept(x);
            due(want, asking.applyAsLong(x), call + " behind an act, asked but once");
            ShadowDoors y = told(text);
            y.image(0);
            due(by, asking.applyAsLong(y), call + " ahead of an act");
            act.accept(y);
            due(want, asking.applyAsLong(y), call + " behind an act");
            y.undo();
            due(by, asking.applyAsLong(y), call + " behind undo");
            y.redo();
            due(want, asking.applyAsLong(y), call + " behind redo");
            y.back(0);
            due(by, asking.applyAsLong(y), call + " behind back");
            tell(y, text.replace("wall 2 0;", "wall 2 0 3 0;").replace("high 3;", "high 1;").replace("*3;", ";"));
            due(never, asking.applyAsLong(y), call + " in another quarter");
        }
    }

    private static final Found[] FOUND = {
        new Found("shadow", x -> x.shadow(0, 0), bits(3, 4), 0, 0),
        new Found("shades", x -> x.shades(0, true), bits(3, 4), 0, 0),
        new Found("moves", x -> x.moves(1, 0), bits(0, 1, 3, 4), bits(0, 1), bits(0, 1)),
        new Found("soonest", x -> x.soonest(1, 4), 1, 24, NONE),
        new Found("reach", x -> x.reach(1, 1), bits(0, 1, 3, 4), bits(0, 1), bits(0, 1)),
        new Found("meet", x -> x.meet(0, 1, 0), 1, 24, NONE),
        new Found("barred", x -> x.barred(4, 1) & bits(0, 1, 4), bits(0), bits(0, 1), bits(0, 1)),
        new Found("longest", x -> x.longest(0, 0), 0, 23, 0),
        new Found("rooms", x -> x.rooms(0), 1, 2, 2),
        new Found("hears", x -> x.hears(1, 4, 0), 1, 0, 0),
        new Found("keep", x -> x.keep(1, 4, 1, 0), 1, 0, 0),
        new Found("surest", x -> x.surest(1, 4, 1, 0), 1, 0, 0),
        new Found("dates", x -> x.dates(1, 4, 1, 0), 100, 0, 0),
    };

    private TermSentences() { }

    private static ShadowDoors gap(String formula) {
        return told(GAP.replace("SHADE", formula));
    }

    private static void hoursAndDates() {
        sentence("It is HOUR 0 of DATE 0 at first; behind HOUR 23 comes HOUR 0 of the next DATE.");
        ShadowDoors x = told("door a at 0 0 high 1;shade 100*date+hour;");
        due(0, x.about(6), "the hour at first");
        due(0, x.about(7), "the date at first");
        due(0, x.shade(0, 0), "shade at first");
        due(23, x.shade(0, 23), "in hour 23");
        due(100, x.shade(0, 24), "in hour 0 of the next date");
        due(123, x.shade(0, 47), "in its hour 23");
        due(200, x.shade(0, 48), "in hour 0 of the one behind it");
        hours(x, 23);
        due(23, x.about(6), "the hour");
        due(0, x.about(7), "the date");
        due(23, x.shade(0, 0), "shade in it");
        x.hour();
        due(0, x.about(6), "the hour");
        due(1, x.about(7), "the next date");
        due(100, x.shade(0, 0), "shade in it");
        hours(x, 24);
        due(0, x.about(6), "the hour");
        due(2, x.about(7), "the one behind it");
    }

    /** Of a door 3 high, in hour 5 of date 1. */
    private static void valueIs(int want, String formula) {
        ShadowDoors x = told("door a at 0 0 high 3;shade " + formula + ";");
        hours(x, 24);
        due(want, x.shade(0, 5), formula);
    }

    private static void shades() {
        sentence("SHADE of a DOOR in an HOUR: what comes of shade (0, if it is not told;");
        due(0, told("door a at 0 0 high 3;").shade(0, 5), "shade that is not told");
        due(0, told("door a at 0 0 high 3;").shadow(0, 5), "no shadow by it");
        valueIs(7, "7");
        sentence("ints, wrapping;");
        valueIs(LEAST, "2048*1024*1024");
        valueIs(MOST, "2048*1024*1024-1");
        valueIs(LEAST, "(2048*1024*1024-1)+1");
        valueIs(LEAST, "0-2048*1024*1024");
        valueIs(0, "4096*1024*1024");
        valueIs(9999 * 9999 * 9999, "9999*9999*9999");
        valueIs(-2, "(2048*1024*1024-1)*2");
        valueIs(1, "2048*1024*1024<0");
        sentence("/ cut, % its rest, both by 0: 0;");
        valueIs(3, "7/2");
        valueIs(-3, "(0-7)/2");
        valueIs(-3, "7/(0-2)");
        valueIs(3, "(0-7)/(0-2)");
        valueIs(0, "(0-1)/2");
        valueIs(1, "7%2");
        valueIs(-1, "(0-7)%2");
        valueIs(1, "7%(0-2)");
        valueIs(0, "7/0");
        valueIs(0, "7%0");
        valueIs(0, "0/0");
        valueIs(0, "0%0");
        valueIs(5, "7/(3-height)+5");
        valueIs(5, "7%(5-hour)+5");
        valueIs(LEAST, "2048*1024*1024/(0-1)");
        valueIs(0, "2048*1024*1024%(0-1)");
        sentence("relations, and, or, not are 1 or 0, of what is not 0)");
        String[] ones = {"2<3", "3>2", "3=3", "5 and 7", "(0-1) and 2", "0 or 9", "9 or 0", "(0-9) or 0", "not 0", "not not 5", "not not (0-5)"};
        for (String one : ones) {
            valueIs(1, one);
            valueIs(0, "(" + one + ")=0");
        }
        for (String zero : new String[] {"3<3", "3<2", "2>2", "2>3", "3=2", "5 and 0", "0 and 5", "0 and 0", "0 or 0", "not 1", "not 5", "not (0-5)"}) {
            valueIs(0, zero);
        }
        sentence("by its height, the HOUR, the DATE:");
        valueIs(3, "height");
        valueIs(5, "hour");
        valueIs(1, "date");
        ShadowDoors x = told("door a at 0 0 high 1;door b at 0 1 high 9;shade height;");
        due(1, x.shade(0, 0), "of the one");
        due(9, x.shade(1, 0), "of the other");
    }

    private static void shadowIs(long want, String rest) {
        due(want, told("size 8 by 8;" + rest).shadow(0, 0), rest);
    }

    private static void shadows() {
        sentence("more than 0: so many CELLS of its row to the right of it are in its SHADOW, below 0: so many to the left of it.");
        String door = "door a at 3 3 high 2;shade ";
        shadowIs(bits(28), door + "1;");
        shadowIs(bits(28, 29), door + "2;");
        shadowIs(0, door + "0;");
        shadowIs(bits(26), door + "0-1;");
        shadowIs(bits(26, 25), door + "0-2;");
        shadowIs(bits(28, 29, 30, 31), door + "9999;");
        shadowIs(bits(28, 29, 30, 31), door + "2048*1024*1024-1;");
        shadowIs(bits(26, 25, 24), door + "0-9999;");
        shadowIs(bits(26, 25, 24), door + "2048*1024*1024;");
        sentence("A LAMP that is lit and is in the row or column of a DOOR (not in its CELL), no WALL between, throws its SHADOW, too: "
                + "as many CELLS as it is high, from it on, away from the LAMP.");
        lampsOfOneDoor();
        lampsAndWalls();
        sentence("No WALL is in a SHADOW, but it goes on behind it; it ends at the quarter's end.");
        shadowIs(0, door + "1;wall 4 3;");
        shadowIs(bits(29), door + "2;wall 4 3;");
        shadowIs(bits(25), door + "0-2;wall 2 3;");
        shadowIs(bits(29), "door a at 3 3 high 2;lamp l at 0 3 lit 0 to 24;wall 4 3;");
        shadowIs(bits(43), "door a at 3 3 high 2;lamp l at 3 0 lit 0 to 24;wall 3 4;");
        shadowIs(bits(11), "door a at 3 3 high 2;lamp l at 3 7 lit 0 to 24;wall 3 2;");
        shadowIs(bits(31), "door a at 6 3 high 9;shade 5;");
        shadowIs(bits(24), "door a at 1 3 high 9;shade 0-5;");
        shadowIs(0, "door a at 7 3 high 9;shade 5;");
        shadowIs(0, "door a at 0 3 high 9;shade 0-5;");
        shadowIs(0, "door a at 7 7 high 9;shade 5;");
        shadowIs(0, "door a at 0 0 high 9;shade 0-5;");
        shadowIs(bits(63), "door a at 6 7 high 9;shade 5;");
        shadowIs(bits(59), "door a at 3 6 high 9;lamp l at 3 0 lit 0 to 24;");
        shadowIs(bits(3), "door a at 3 1 high 9;lamp l at 3 7 lit 0 to 24;");
        shadowIs(bits(0), "door a at 0 1 high 9;lamp l at 0 7 lit 0 to 24;");
        shadowIs(bits(63), "door a at 7 6 high 9;lamp l at 7 0 lit 0 to 24;");
        shadowIs(0, "door a at 0 7 high 9;lamp l at 0 0 lit 0 to 24;");
        shadowIs(0, "door a at 7 0 high 9;lamp l at 7 7 lit 0 to 24;");
        shadowIs(0, "door a at 3 7 high 9;lamp l at 3 0 lit 0 to 24;");
        shadowIs(0, "door a at 3 0 high 9;lamp l at 3 7 lit 0 to 24;");
        shadowIs(0, "door a at 7 3 high 9;lamp l at 0 3 lit 0 to 24;");
        sentence("A DOOR is OPEN in its HOURS, if it is not SHUT.");
        ShadowDoors x = told("door a at 0 0 high 1 open 1 to 3;");
        int[] open = {0, 1, 1, 0};
        for (int hour = 0; hour < 4; hour++, x.hour()) {
            due(open[hour], x.door(0, 2), "open in " + hour);
            x.shut(0);
            due(0, x.door(0, 2), "shut in " + hour);
            x.shut(0);
            due(open[hour], x.door(0, 2), "not shut in " + hour);
        }
    }

    private static void lampsOfOneDoor() {
        String door = "door a at 3 3 high 2;lamp l at ";
        shadowIs(bits(28, 29), door + "0 3 lit 0 to 24;");
        shadowIs(bits(28, 29), door + "2 3 lit 0 to 24;");
        shadowIs(bits(26, 25), door + "7 3 lit 0 to 24;");
        shadowIs(bits(26, 25), door + "4 3 lit 0 to 24;");
        shadowIs(bits(35, 43), door + "3 0 lit 0 to 24;");
        shadowIs(bits(35, 43), door + "3 2 lit 0 to 24;");
        shadowIs(bits(19, 11), door + "3 7 lit 0 to 24;");
        shadowIs(bits(19, 11), door + "3 4 lit 0 to 24;");
        shadowIs(0, door + "3 3 lit 0 to 24;");
        shadowIs(0, door + "2 2 lit 0 to 24;");
        shadowIs(0, door + "0 2 lit 0 to 24;");
        shadowIs(0, door + "4 0 lit 0 to 24;");
        shadowIs(0, door + "7 2 lit 0 to 24;");
        shadowIs(0, door + "0 3 lit 1 to 24;");
        shadowIs(bits(28, 29), door + "0 3 lit 0 to 1;");
        shadowIs(bits(28), "door a at 3 3 high 1;lamp l at 0 3 lit 0 to 24;");
        shadowIs(bits(28, 29, 30, 31), "door a at 3 3 high 9;lamp l at 0 3 lit 0 to 24;");
        shadowIs(bits(26), "door a at 3 3 high 1;lamp l at 4 3 lit 0 to 24;");
        shadowIs(bits(35), "door a at 3 3 high 1;lamp l at 3 0 lit 0 to 24;");
        shadowIs(bits(35), "door a at 3 3 high 1;lamp l at 3 2 lit 0 to 24;");
        shadowIs(bits(19), "door a at 3 3 high 1;lamp l at 3 4 lit 0 to 24;");
        shadowIs(bits(35, 43, 51, 59), "door a at 3 3 high 9;lamp l at 3 0 lit 0 to 24;");
        shadowIs(bits(28, 29, 26, 25), door + "0 3 lit 0 to 24;lamp m at 7 3 lit 0 to 24;");
        shadowIs(bits(28, 29, 26), door + "0 3 lit 0 to 24;shade 0-1;");
        shadowIs(bits(28, 29, 30), door + "0 3 lit 0 to 24;shade 3;");
        ShadowDoors x = told("size 8 by 8;" + door + "0 3 lit 2 to 4;");
        long[] shadows = {0, 0, bits(28, 29), bits(28, 29), 0};
        for (int n = 0; n < 5; n++) {
            due(shadows[n], x.shadow(0, n), "lit 2 to 4, in " + n);
        }
        x.out(0);
        due(0, x.shadow(0, 2), "one that is out is not lit");
        due(bits(4, 5), told("size 1 by 8;door a at 0 3 high 2;lamp l at 0 1 lit 0 to 24;").shadow(0, 0), "in a quarter of one column");
        due(bits(4, 5), told("size 8 by 1;door a at 3 0 high 2;lamp l at 1 0 lit 0 to 24;").shadow(0, 0), "in a quarter of one row");
    }

    private static void lampsAndWalls() {
        String door = "door a at 3 3 high 2;";
        shadowIs(0, door + "lamp l at 0 3 lit 0 to 24;wall 1 3;");
        shadowIs(0, door + "lamp l at 0 3 lit 0 to 24;wall 2 3;");
        shadowIs(0, door + "lamp l at 7 3 lit 0 to 24;wall 4 3;");
        shadowIs(0, door + "lamp l at 7 3 lit 0 to 24;wall 6 3;");
        shadowIs(0, door + "lamp l at 3 0 lit 0 to 24;wall 3 1;");
        shadowIs(0, door + "lamp l at 3 0 lit 0 to 24;wall 3 2;");
        shadowIs(0, door + "lamp l at 3 7 lit 0 to 24;wall 3 4;");
        shadowIs(0, door + "lamp l at 3 7 lit 0 to 24;wall 3 6;");
        // A wall behind the lamp or the door, or beside the way, is not between; doors, lamps and people are no walls.
        shadowIs(bits(28, 29), door + "lamp l at 1 3 lit 0 to 24;wall 0 3;");
        shadowIs(bits(28, 29), door + "lamp l at 1 3 lit 0 to 24;wall 6 3;");
        shadowIs(bits(35, 43), door + "lamp l at 3 1 lit 0 to 24;wall 3 0;");
        shadowIs(bits(35, 43), door + "lamp l at 3 1 lit 0 to 24;wall 2 2 4 2;");
        shadowIs(bits(28, 29), door + "lamp l at 0 3 lit 0 to 24;wall 1 2 1 4;");
        shadowIs(bits(28, 29), door + "lamp l at 0 3 lit 0 to 24;door b at 1 3 high 1;person p at 2 3;lamp m at 2 3 lit 23 to 24;");
    }

    private static void moves() {
        sentence("MOVES of an HOUR, from a CELL: to stay;");
        due(bits(0), told("size 1 by 1;").moves(0, 0), "one cell");
        due(bits(0), told("size 2 by 2;wall 1 0 0 1;").moves(0, 0), "walls round it");
        sentence("to a CELL next to it (4 at most) that is no WALL;");
        ShadowDoors x = told("size 3 by 4;");
        due(bits(7, 6, 8, 4, 10), x.moves(7, 0), "in the middle");
        due(bits(0, 1, 3), x.moves(0, 0), "in the first corner");
        due(bits(2, 1, 5), x.moves(2, 0), "in the second corner");
        due(bits(9, 6, 10), x.moves(9, 0), "in the third corner");
        due(bits(11, 8, 10), x.moves(11, 0), "in the last corner");
        due(bits(3, 0, 4, 6), x.moves(3, 0), "at the left edge");
        due(bits(5, 2, 4, 8), x.moves(5, 0), "at the right edge");
        due(bits(7, 6, 10), told("size 3 by 4;wall 1 1 2 2;").moves(7, 0), "but the walls");
        due(bits(0, 1), told("size 1 by 2;").moves(0, 0), "one column");
        due(bits(62, 63, 55), told("size 8 by 8;").moves(63, 0), "the last of 64");
        sentence("in the SHADOW of an OPEN DOOR: to that DOOR;");
        ShadowDoors y = told("size 7 by 1;wall 1 0 3 0 5 0;door a at 0 0 high 4 open 0 to 2;shade height;");
        due(bits(2, 0), y.moves(2, 0), "in its shadow, not to another cell of it");
        due(bits(4, 0), y.moves(4, 1), "at the shadow's end");
        due(bits(6), y.moves(6, 0), "behind it");
        due(bits(2), y.moves(2, 2), "it is not open");
        y.shut(0);
        due(bits(2), y.moves(2, 0), "it is shut");
        y.shut(0);
        ShadowDoors z = told("size 5 by 1;wall 1 0 3 0;door a at 0 0 high 2;door b at 4 0 high 2;shade 0-2;lamp l at 0 0 lit 0 to 24;");
        due(bits(2, 4), z.moves(2, 0), "of the doors the one");
        ShadowDoors both = told("size 5 by 1;wall 1 0 3 0;door a at 0 0 high 3;door b at 4 0 high 1;shade (height-2)*2;");
        due(bits(2, 0, 4), both.moves(2, 0), "in the shadows of both");
        sentence("at an OPEN DOOR: to a CELL of its SHADOW,");
        due(bits(0, 2, 4), y.moves(0, 0), "to each of its shadow");
        due(bits(0), y.moves(0, 2), "it is not open");
        y.shut(0);
        due(bits(0), y.moves(0, 0), "it is shut");
        sentence("to another OPEN DOOR with some CELL in both SHADOWS.");
        due(bits(0, 2, 4), both.moves(0, 0), "from the one to the other");
        due(bits(4, 2, 0), both.moves(4, 0), "from the other to the one");
        both.shut(1);
        due(bits(0, 2), both.moves(0, 0), "the other is shut");
        due(bits(4), both.moves(4, 0), "at the one that is shut");
        ShadowDoors middle = told("size 7 by 1;wall 0 0 2 0 4 0 6 0;door a at 1 0 high 3;door b at 5 0 high 1;shade (height-2)*2;");
        due(bits(1, 3, 5), middle.moves(1, 0), "no cell but these");
        ShadowDoors side = told("size 8 by 1;wall 1 0 3 0 5 0;door a at 2 0 high 3;door b at 6 0 high 1;shade (height-2)*2;");
        due(bits(2, 4, 6), side.moves(2, 0), "no cell but these");
        // Both shadows lie on the wall alone: none is in both, as no wall is in a shadow.
        ShadowDoors onWall = told("size 3 by 1;wall 1 0;door a at 0 0 high 3;door b at 2 0 high 1;shade height-2;");
        due(bits(0), onWall.moves(0, 0), "both fall on a wall");
        ShadowDoors apart = told("size 6 by 1;wall 1 0 4 0;door a at 0 0 high 3;door b at 5 0 high 1;shade (height-2)*2;");
        due(bits(0, 2), apart.moves(0, 0), "shadows side by side");
    }

    private static void acts() {
        sentence("In earnest PEOPLE stand where told, no DOOR is SHUT, no LAMP is OUT, the sun is there.");
        ShadowDoors x = told(STREET);
        due(5, x.person(0, 0), "person 0");
        due(8, x.person(1, 0), "person 1");
        dueOfEach(0, "shut", door -> x.door(door, 3), 0, 1);
        due(0, x.lamp(0, 2), "out");
        due(0, x.about(9), "an eclipse");
        due(bits(0), x.shadow(0, 9), "the sun is there");
        sentence("ACTS: one goes, by a MOVE of the HOUR (once in an HOUR);");
        due(NONE, x.go(0, 8), "no move");
        due(1, x.go(0, 6), "go");
        due(NONE, x.go(0, 6), "a second time");
        due(NONE, x.go(0, 5), "a second time, back");
        due(0, x.go(1, 8), "the other stays");
        due(NONE, x.go(1, 8), "and has gone thereby");
        x.hour();
        due(1, x.go(0, 5), "in the next hour");
        ShadowDoors now = told(GAP.replace("SHADE", "(hour=1)*2") + "person p at 0 0;");
        due(NONE, now.go(0, 2), "a move of the next hour");
        now.hour();
        due(2, now.go(0, 2), "a move of this hour");
        now.hour();
        due(NONE, now.go(0, 0), "a move of the hour before");
        ShadowDoors open = told("size 3 by 1;wall 1 0;door a at 0 0 high 1 open 0 to 1;shade 2;person p at 0 0;");
        due(bits(0, 2), open.moves(0, 0), "it is open");
        open.hour();
        due(NONE, open.go(0, 2), "it is open no more");
        sentence("an HOUR goes by; a DOOR is SHUT, or is so no more; a LAMP is put OUT, or is so no more; an ECLIPSE begins (SHADES are 0), or is over.");
        ShadowDoors y = told(STREET);
        y.hour();
        due(1, y.about(8), "an hour goes by");
        y.shut(0);
        due(1, y.door(0, 3), "shut");
        y.shut(0);
        due(0, y.door(0, 3), "shut no more");
        y.out(0);
        due(1, y.lamp(0, 2), "out");
        y.out(0);
        due(0, y.lamp(0, 2), "out no more");
        y.eclipse();
        due(0, y.shadow(0, 8), "shades are 0");
        due(bits(2, 3), y.shadow(0, 17), "lamps are not");
        y.eclipse();
        due(bits(0), y.shadow(0, 8), "it is over");
        due(7, y.about(10), "all of them acts");
    }

    private static void undone() {
        sentence("UNDO takes back the latest ACT that was not,");
        ShadowDoors x = told(STREET);
        String[] before = new String[8];
        before[0] = worldOf(x);
        for (int i = 0; i < 7; i++) {
            act(x, i);
            before[i + 1] = worldOf(x);
        }
        for (int i = 6; i >= 0; i--) {
            due(true, x.undo(), "undo()");
            due(true, before[i].equals(worldOf(x)), "act " + i + " was taken back");
            due(i, x.about(10), "acts that can be undone");
        }
        due(false, x.undo(), "undo() of none");
        sentence("REDO does that again which was taken back last (till another ACT);");
        for (int i = 0; i < 7; i++) {
            due(7 - i, x.about(11), "acts that can be redone");
            due(true, x.redo(), "redo()");
            due(true, before[i + 1].equals(worldOf(x)), "act " + i + " was done again");
        }
        due(false, x.redo(), "redo() of none");
        x.undo();
        x.undo();
        x.redo();
        due(true, before[6].equals(worldOf(x)), "that which was taken back last");
        for (int i = 0; i < 7; i++) {
            ShadowDoors y = told(STREET);
            y.shut(1);
            y.undo();
            act(y, i);
            due(false, y.redo(), "redo() behind act " + i);
            due(0, y.about(11), "acts that can be redone");
            due(0, y.door(1, 3), "the door is not shut again");
        }
        sentence("40 at most are kept, the oldest go.");
        ShadowDoors z = told(STREET);
        hours(z, 40);
        due(40, z.about(10), "40 are kept");
        z.eclipse();
        due(40, z.about(10), "40 of 41 are kept");
        for (int i = 0; i < 40; i++) {
            due(true, z.undo(), "undo() " + i);
        }
        due(false, z.undo(), "the oldest went");
        due(1, z.about(8), "it stays done");
        due(40, z.about(11), "40 can be redone");
        for (int i = 0; i < 40; i++) {
            due(true, z.redo(), "redo() " + i);
        }
        due(false, z.redo(), "no more");
        due(40, z.about(8), "all hours again");
        due(1, z.about(9), "the eclipse again");
        z.undo();
        z.shut(0);
        due(40, z.about(10), "40 again");
        for (int i = 0; i < 40; i++) {
            z.undo();
        }
        due(1, z.about(8), "none went for the one that was taken back");
    }

    /** Acts of all kinds on the street, the first of which can be done at first alone. */
    private static void act(ShadowDoors x, int i) {
        switch (i) {
            case 0:
                x.go(0, 0);
                break;
            case 1:
                x.go(1, 8);
                break;
            case 2:
                x.shut(0);
                break;
            case 3:
                x.hour();
                break;
            case 4:
                x.out(0);
                break;
            case 5:
                x.eclipse();
                break;
            default:
                x.shut(0);
                break;
        }
    }

    /** What acts change, but not how many of them are kept. */
    private static String worldOf(ShadowDoors x) {
        StringBuilder world = new StringBuilder();
        for (int i = 0; i < 2; i++) {
            world.append(x.person(i, 0)).append(' ').append(x.person(i, 1)).append(' ').append(x.door(i, 3)).append(' ');
        }
        return world.append(x.lamp(0, 2)).append(' ').append(x.about(8)).append(' ').append(x.about(9)).toString();
    }

    private static void fromNowOn() {
        sentence("(From now on; all as it is now but for HOURS; nothing is done.");
        ShadowDoors x = gap("(hour=3)*2");
        due(4, x.soonest(0, 2), "from hour 0 on");
        hours(x, 2);
        due(2, x.soonest(0, 2), "from hour 2 on");
        for (Found found : FOUND) {
            found.lookAt();
        }
        ShadowDoors lit = told(LIT);
        due(0, lit.shadow(0, 0), "no lamp is lit");
        due(1, lit.free(1, 4, 1, 0), "one is to burn");
        due(0, lit.shadow(0, 0), "it does not");
        due(bits(0, 1), lit.moves(1, 0), "it does not");
        ShadowDoors street = told(STREET);
        street.go(0, 0);
        street.hour();
        street.shut(1);
        String before = stateOf(street);
        street.reach(5, 48);
        street.meet(0, 1, 0);
        street.barred(9, 48);
        street.longest(0, 0);
        street.cross(0, 1, 0);
        street.rooms(48);
        street.hears(0, 9, 48);
        street.keep(5, 9, 24, 1);
        street.free(5, 9, 24, 1);
        street.surest(5, 9, 8, 0);
        street.dates(5, 9, 24, 0);
        street.moves(5, 48);
        street.shades(48, true);
        dueSame(before, street, "whatever is found");
        due(bits(0), street.shadow(0, 8), "shadows as before");
        sentence("One who went in this HOUR already may go in it again there.)");
        ShadowDoors gone = told("size 4 by 1;person p at 0 0;person q at 3 0;");
        gone.go(0, 1);
        due(1, gone.meet(0, 1, 0), "both go, though the one went already");
        due(2, gone.meet(0, 1, 1), "the cell that both come to");
        due(1, gone.soonest(1, 2), "from where he went");
        due(1, gone.person(0, 1), "he is gone all the same");
    }

    private static void soonestWays() {
        sentence("SOONEST from a CELL to another one: by a MOVE each HOUR, the fewest HOURS (48 at most);");
        String winding = "size 8 by 8;wall 1 0 1 1 1 2 1 3 1 4 1 5 1 6 3 7 3 6 3 5 3 4 3 3 3 2 3 1 5 0 5 1 5 2 5 3 5 4 5 5 5 6;";
        due(7 + 2 + 7 + 2 + 7 + 2, told(winding).soonest(0, 62), "down, up and down again");
        ShadowDoors x = gap("(date=2)*2");
        due(NONE, x.soonest(0, 2), "49 hours");
        x.hour();
        due(48, x.soonest(0, 2), "48 hours");
        due(48, x.about(16), "48 lie there");
        due(1, gap("2").soonest(0, 2), "one move");
        due(NONE, gap("0").soonest(0, 2), "no way");
        sentence("of like ones the first (CELL by CELL, the least number).");
        ShadowDoors y = told("size 3 by 3;");
        due(4, y.soonest(8, 0), "to the first corner");
        dueWay(y, 5, 2, 1, 0);
        due(4, y.soonest(0, 8), "to the last corner");
        dueWay(y, 1, 2, 5, 8);
        // Waiting at a lesser cell comes ahead of waiting at a greater one, but behind going to a lesser one still.
        ShadowDoors z = told("size 3 by 3;wall 1 0 1 1 1 2;door a at 0 1 high 1;shade (hour=3)*2;");
        due(4, z.soonest(3, 5), "waiting for the shadow");
        dueWay(z, 0, 0, 3, 5);
    }

    private static void reachAndMeet() {
        sentence("REACH: CELLS where one can be behind n HOURS.");
        ShadowDoors x = told("size 5 by 1;");
        due(bits(2), x.reach(2, 0), "behind none");
        due(bits(1, 2, 3), x.reach(2, 1), "behind one, where one was too");
        due(bits(0, 1, 2, 3, 4), x.reach(2, 2), "behind two");
        ShadowDoors y = gap("(hour=1)*2");
        due(bits(0), y.reach(0, 1), "the hour of the shadow has not gone by");
        due(bits(0, 2), y.reach(0, 2), "it has");
        due(bits(0, 2), y.reach(0, 3), "it was before");
        sentence("MEET of two PEOPLE: the fewest HOURS (48 at most) behind which both can be in one CELL; the least such CELL.");
        ShadowDoors same = told("size 5 by 1;person p at 3 0;person q at 3 0;person r at 0 0;");
        due(0, same.meet(0, 1, 0), "in one cell already");
        due(3, same.meet(0, 1, 1), "that cell");
        due(2, same.meet(0, 2, 0), "both go");
        due(1, same.meet(0, 2, 1), "the least of two");
        due(1, same.meet(2, 0, 1), "the other way about");
        ShadowDoors one = told("size 5 by 1;wall 1 0;door a at 0 0 high 1;shade 3;person p at 0 0;person q at 4 0;");
        due(1, one.meet(0, 1, 0), "the one by the shadow, the other on foot");
        due(3, one.meet(0, 1, 1), "the one by the shadow, the other on foot");
        due(1, one.meet(1, 0, 0), "the other way about");
        due(3, one.meet(1, 0, 1), "the other way about");
        ShadowDoors late = told(GAP.replace("SHADE", "(date=2)*2") + "person p at 0 0;person q at 2 0;");
        due(NONE, late.meet(0, 1, 0), "49 hours");
        due(NONE, late.meet(0, 1, 1), "49 hours");
        late.hour();
        due(48, late.meet(0, 1, 0), "48 hours");
        due(0, late.meet(0, 1, 1), "the least of both");
    }

    private static void barredAndLongest() {
        sentence("BARRED from a CELL: CELLS (no WALLS) from which one can't be there within n HOURS.");
        ShadowDoors x = told("size 5 by 2;wall 2 0;");
        due(bits(1, 3, 4, 5, 6, 7, 8, 9), x.barred(0, 0), "within none, no wall");
        due(bits(3, 4, 6, 7, 8, 9), x.barred(0, 1), "within one");
        due(bits(4), x.barred(0, 5), "within five");
        due(0, x.barred(0, 6), "within six");
        ShadowDoors y = gap("(hour=1)*2");
        due(bits(2), y.barred(0, 1), "the hour of the shadow has not gone by");
        due(0, y.barred(0, 2), "it has");
        sentence("LONGEST of a DOOR: of 24 HOURS from now on the one in which most CELLS are in its SHADOW;");
        String door = "size 8 by 1;door a at 0 0 high 1;shade ";
        due(23, told(door + "(24*date+hour=23)*3;").longest(0, 0), "the 24th");
        due(3, told(door + "(24*date+hour=23)*3;").longest(0, 1), "its cells");
        due(0, told(door + "(24*date+hour=24)*3;").longest(0, 1), "not the 25th");
        ShadowDoors next = told(door + "(24*date+hour=24)*3;");
        next.hour();
        due(23, next.longest(0, 0), "from now on");
        due(0, told(door + "4-hour;").longest(0, 0), "the first of them");
        due(4, told(door + "4-hour;").longest(0, 1), "the first of them");
        due(2, told("size 8 by 1;wall 2 0;door a at 0 0 high 1;shade 3;").longest(0, 1), "walls are not in it");
        due(7, told(door + "9999;").longest(0, 1), "to the quarter's end");
        due(3, told("size 8 by 1;door a at 1 0 high 2 open 5 to 6;lamp l at 0 0 lit 3 to 4;shade 0-(hour=3);").longest(0, 0), "by lamp and shade, open or not");
        sentence("of like ones the first.");
        due(0, told(door + "0;").longest(0, 0), "no shadow in all of them");
        due(0, told(door + "0;").longest(0, 1), "no cells");
        due(4, told(door + "(hour=4 or hour=9)*2+(hour=2);").longest(0, 0), "of two");
        due(7, told(door + "hour;").longest(0, 0), "as it goes on at the quarter's end");
    }

    private static void crossesAndRooms() {
        sentence("CROSS of two DOORS: the first HOUR (48 from now at most) in which both are OPEN, some CELL in both SHADOWS.");
        String doors = "size 3 by 1;door a at 0 0 high 3;door b at 2 0 high 1 OPEN;shade (height-2)*";
        due(0, told(doors.replace("OPEN", "") + "1;").cross(0, 1, 0), "now");
        due(48, told(doors.replace("OPEN", "") + "(24*date+hour=48);").cross(0, 1, 0), "48 from now");
        due(NONE, told(doors.replace("OPEN", "") + "(24*date+hour=49);").cross(0, 1, 0), "49 from now");
        due(23, told(doors.replace("OPEN", "open 23 to 24") + "1;").cross(0, 1, 0), "both are to be open");
        due(24, told(doors.replace("OPEN", "open 0 to 1") + "(24*date+hour>0);").cross(0, 1, 0), "in the next day");
        due(2, told(doors.replace("OPEN", "") + "(hour=2 or hour=5);").cross(0, 1, 0), "the first one");
        ShadowDoors x = told(doors.replace("OPEN", "") + "1;");
        x.shut(0);
        due(NONE, x.cross(0, 1, 0), "one is shut");
        due(NONE, told("size 3 by 1;wall 1 0;door a at 0 0 high 3;door b at 2 0 high 1;shade height-2;").cross(0, 1, 0), "on a wall alone");
        sentence("ROOMS: CELLS that are no WALLS, next to one another, and so on.");
        due(1, told("size 8 by 8;").rooms(0), "one room");
        due(0, told("size 1 by 1;wall 0 0;").rooms(0), "no room");
        due(1, told("size 1 by 1;").rooms(0), "one cell");
        due(4, told("size 3 by 3;wall 1 0 0 1 1 1 2 1 1 2;").rooms(0), "corners do not touch");
        due(2, told("size 3 by 2;wall 1 0 1 1;").rooms(0), "no way round the edge");
        due(24, told("size 6 by 8;wall 0 0 2 0 4 0 1 1 3 1 5 1 0 2 2 2 4 2 1 3 3 3 5 3 0 4 2 4 4 4 1 5 3 5 5 5 0 6 2 6 4 6 1 7 3 7 5 7;").rooms(0),
                "24 rooms of one cell");
        due(1, told("size 3 by 3;wall 1 1;").rooms(0), "round a wall");
        sentence("JOINED in an HOUR are ROOMS of an OPEN DOOR and of CELLS in its SHADOW,");
        String row = "size 7 by 1;wall 1 0 3 0 5 0;door a at 0 0 high 4 open 0 to 2;shade height;";
        ShadowDoors y = told(row);
        due(2, y.rooms(0), "three rooms are one");
        due(4, y.rooms(2), "it is not open");
        y.shut(0);
        due(4, y.rooms(0), "it is shut");
        sentence("of OPEN DOORS some CELL of which is in both SHADOWS, and so on.");
        ShadowDoors chain = told("size 7 by 1;wall 1 0 3 0 5 0;door a at 0 0 high 3;door b at 4 0 high 1;door c at 6 0 high 1;shade (height-2)*2;");
        due(1, chain.rooms(0), "a, its shadow, b and c");
        due(1, chain.hears(0, 6, 0), "from the first to the last");
        chain.shut(1);
        due(2, chain.rooms(0), "b is shut");
        due(0, chain.hears(0, 6, 0), "no more from the first to the last");
        due(1, chain.hears(0, 2, 0), "a and its shadow");
    }

    private static void keepAndFree() {
        sentence("KEEP: the fewest DOORS (3 at most) to be SHUT (besides those that are) so that from a CELL one can't be in another one within n HOURS;");
        String column = "size 3 by 5;wall 1 0 1 1 1 2 1 3 1 4;shade 2;";
        StringBuilder doors = new StringBuilder();
        for (int i = 0; i <= 4; i++) {
            ShadowDoors x = told(column + doors);
            due(i <= 3 ? i : NONE, x.keep(0, 2, 24, 0), i + " doors");
            due(i <= 3 ? (1 << i) - 1 : NONE, x.keep(0, 2, 24, 1), i + " doors");
            if (i == 4) {
                x.shut(2);
                due(3, x.keep(0, 2, 24, 0), "besides the one that is");
                due(bits(0, 1, 3), x.keep(0, 2, 24, 1), "besides the one that is");
            }
            doors.append("door d").append((char) ('a' + i)).append(" at 0 ").append(i).append(" high 1;");
        }
        ShadowDoors far = told(column + "door a at 0 0 high 1;door b at 0 1 high 1;");
        due(0, far.keep(12, 2, 4, 0), "too far within 4");
        due(2, far.keep(12, 2, 5, 0), "within 5 by both");
        due(0, far.keep(12, 8, 4, 0), "too far within 4");
        due(1, far.keep(12, 8, 6, 0), "within 6 by the nearer one");
        due(bits(1), far.keep(12, 8, 6, 1), "within 6 by the nearer one");
        due(2, far.keep(12, 8, 7, 0), "within 7 by both");
        sentence("of like ones the least as bits.");
        String either = "size 5 by 1;wall 1 0 3 0;door a at 0 0 high 3;door b at 4 0 high 1;shade (height-2)*2;";
        due(1, told(either).keep(0, 4, 1, 0), "either of two");
        due(bits(0), told(either).keep(0, 4, 1, 1), "the first of two");
        String swapped = "size 5 by 1;wall 1 0 3 0;door b at 4 0 high 1;door a at 0 0 high 3;shade (height-2)*2;";
        due(bits(0), told(swapped).keep(0, 4, 1, 1), "the first of two, told the other way about");
        String lamps = "size 4 by 2;wall 2 0 2 1;door a at 1 0 high 2;lamp k at 0 0 lit 23 to 24;lamp l at 0 0 lit 23 to 24;";
        due(bits(0), told(lamps).free(1, 3, 1, 1), "the first of two lamps");
        sentence("FREE: the fewest LAMPS to burn in all HOURS (OUT or not) so that one can;");
        due(0, told(lamps).free(1, 0, 1, 0), "none, on foot");
        due(1, told(lamps).free(1, 3, 1, 0), "one");
        ShadowDoors out = told(lamps);
        out.out(0);
        out.out(1);
        due(1, out.free(1, 3, 1, 0), "out or not");
        due(bits(0), out.free(1, 3, 1, 1), "out or not");
        due(0, told(lamps).free(1, 3, 24, 0), "none, as one is lit in 23");
        due(1, told(lamps).free(1, 3, 23, 0), "one, within 23");
        due(1, out.free(1, 3, 24, 0), "one, as those that are out stay so");
        String two = "size 6 by 2;wall 2 0 4 0 2 1 4 1;door a at 1 0 high 2;lamp k at 0 1 lit 0 to 1;lamp l at 0 0 lit 22 to 23;"
                + "door b at 3 1 high 2;lamp m at 3 0 lit 0 to 24;lamp n at 0 0 lit 0 to 24;";
        due(NONE, told(two).free(1, 5, 24, 0), "all are not enough");
        ShadowDoors both = told("size 8 by 1;wall 2 0 5 0;door a at 1 0 high 3;door b at 4 0 high 3;lamp k at 0 0 lit 23 to 24;lamp l at 3 0 lit 22 to 23;");
        due(2, both.free(0, 7, 3, 0), "two");
        due(bits(0, 1), both.free(0, 7, 3, 1), "two");
    }

    private static void surestAndDates() {
        sentence("SUREST from a CELL to another one for n HOURS (1 .. 8):");
        ShadowDoors x = told(GAP.replace("SHADE", "2") + "cloud 50;");
        due(1, x.surest(0, 2, 1, 0), "one hour");
        due(2, x.surest(0, 2, 1, 1), "one hour");
        due(255, x.surest(0, 2, 8, 0), "eight hours");
        due(256, x.surest(0, 2, 8, 1), "eight hours");
        due(NONE, x.surest(0, 2, 0, 0), "none");
        due(NONE, x.surest(0, 2, 9, 0), "nine");
        sentence("in each HOUR it is cloudy with odds of cloud by 100 (SHADES are 0 then), which one sees ahead of one's MOVE:");
        oddsOf(0, 1, 1);
        oddsOf(1, 99, 100);
        oddsOf(25, 3, 4);
        oddsOf(99, 1, 100);
        oddsOf(100, 0, 1);
        ShadowDoors lamp = told("size 4 by 1;wall 2 0;door a at 1 0 high 2;lamp l at 0 0 lit 0 to 24;cloud 100;");
        due(1, lamp.surest(1, 3, 1, 0), "lamps burn under clouds");
        ShadowDoors dark = told(GAP.replace("SHADE", "2") + "cloud 50;");
        dark.eclipse();
        due(0, dark.surest(0, 2, 8, 0), "in an eclipse clear hours are as cloudy ones");
        ShadowDoors corner = told("size 8 by 8;wall 6 7 7 6;door a at 0 7 high 1;shade 7;cloud 75;");
        due(1, corner.surest(56, 63, 1, 0), "to the last of 64 cells");
        due(4, corner.surest(56, 63, 1, 1), "to the last of 64 cells");
        due(1, corner.surest(63, 56, 1, 0), "from the last of 64 cells");
        // Who sees clouds waits at the door for the next hour; who sees none goes by the shadow at once.
        ShadowDoors seen = told("size 4 by 1;door a at 0 0 high 1;shade 3;cloud 50;");
        due(3, seen.surest(0, 3, 2, 0), "clear now: by the shadow; else once more");
        due(4, seen.surest(0, 3, 2, 1), "clear now: by the shadow; else once more");
        due(1, seen.surest(0, 3, 3, 1), "on foot");
        sentence("the greatest odds to be there behind one of the n HOURS.");
        ShadowDoors early = told(GAP.replace("SHADE", "(hour=0)*2") + "cloud 50;");
        due(1, early.surest(0, 2, 8, 0), "behind the first");
        due(2, early.surest(0, 2, 8, 1), "behind the first");
        due(1, early.surest(2, 2, 8, 0), "where one is");
        due(1, early.surest(2, 2, 8, 1), "where one is");
        ShadowDoors choice = told("size 5 by 2;wall 2 0 2 1;door a at 1 0 high 1;door b at 1 1 high 1;shade (hour=1)*3+(hour=2)*3;cloud 20;");
        due(24, choice.surest(0, 3, 3, 0), "two tries");
        due(25, choice.surest(0, 3, 3, 1), "two tries");
        sentence("DATES: of 0 .. 99 those on which, from this HOUR on, one can be there within n HOURS.");
        due(1, gap("(date=0)*2").dates(0, 2, 24, 0), "date 0");
        due(0, gap("(date=0)*2").dates(0, 2, 24, 1), "date 0");
        due(1, gap("(date=99)*2").dates(0, 2, 24, 0), "date 99");
        due(99, gap("(date=99)*2").dates(0, 2, 24, 2), "date 99");
        due(0, gap("(date=100)*2").dates(0, 2, 24, 0), "not date 100");
        due(100, gap("2").dates(0, 2, 1, 0), "all dates alike");
        due(0, gap("2").dates(0, 2, 1, 1), "all dates alike");
        due(99, gap("2").dates(0, 2, 1, 2), "all dates alike");
        due(0, gap("0").dates(0, 2, 1, 0), "all dates alike, none");
        ShadowDoors late = gap("(date=100)*2");
        late.hour();
        due(99, late.dates(0, 2, 24, 1), "from date 99 into date 100");
        ShadowDoors hour = gap("(hour=5)*(date%10=3)*2");
        due(0, hour.dates(0, 2, 5, 0), "within 5");
        due(10, hour.dates(0, 2, 6, 0), "within 6");
        hours(hour, 5);
        due(10, hour.dates(0, 2, 1, 0), "from this hour on");
        hours(hour, 24 * 4);
        due(3, hour.dates(0, 2, 1, 1), "dates that were, too");
        due(93, hour.dates(0, 2, 1, 2), "dates that come");
        hour.hour();
        due(2, hour.dates(0, 2, 24, 1), "into the next date");
    }

    private static void oddsOf(int cloud, int upper, int lower) {
        ShadowDoors x = told(GAP.replace("SHADE", "2") + "cloud " + cloud + ";");
        due(upper, x.surest(0, 2, 1, 0), "upper part by cloud " + cloud);
        due(lower, x.surest(0, 2, 1, 1), "lower part by cloud " + cloud);
    }

    private static void looks() {
        sentence("LOOKS, 30 at most, are TOLD at a TIME (0 at first, goes on), UNTOLD at a later one or the same:");
        ShadowDoors x = told("size 6 by 1;shade hour-12;");
        due(0, x.about(13), "the time at first");
        for (int i = 0; i < 30; i++) {
            due(i, x.look(0, 0, false), "look " + i);
        }
        due(NONE, x.look(0, 0, false), "look 30");
        due(true, x.untell(0), "untold at the same time");
        x.later(3);
        due(3, x.about(13), "the time goes on");
        due(true, x.untell(1), "untold at a later one");
        sentence("in an HOUR of DATE 0 a CELL was in the SHADOW of an unknown DOOR, or not (by SHADE alone).");
        ShadowDoors y = told("size 4 by 1;door a at 2 0 high 1;lamp l at 3 0 lit 0 to 24;shade (date=0)*(hour=1)-(date>0);");
        hours(y, 30);
        y.look(1, 3, true);
        due(bits(2), y.places(0), "one to its left, by date 0");
        ShadowDoors none = told("size 4 by 1;door a at 2 0 high 1;lamp l at 3 0 lit 0 to 24;shade 0;");
        none.look(0, 1, true);
        due(0, none.fit(0), "a lamp's shadow is not by shade");
        ShadowDoors not = told("size 4 by 1;shade 0-1;");
        not.look(5, 1, false);
        due(bits(0, 1, 3), not.places(0), "not the one to its right");
        not.eclipse();
        due(bits(0, 1, 3), not.places(0), "in an eclipse now");
        ShadowDoors far = told("size 4 by 2;shade 2048*1024*1024;");
        far.look(5, 1, true);
        due(bits(2, 3), far.places(0), "all to the right of it, of its row alone");
        sentence("As known at k those count that were TOLD at k or before, not UNTOLD at k or before.");
        ShadowDoors z = told("size 4 by 1;shade 1;");
        z.later(5);
        z.look(0, 2, true);
        z.later(5);
        z.untell(0);
        dueOfEach(16, "fit", z::fit, LEAST, -1, 0, 4, 10, 11, MOST);
        dueOfEach(4, "fit", z::fit, 5, 6, 9);
        z.look(0, 3, true);
        z.untell(1);
        dueOfEach(16, "fit of what was untold at once", z::fit, 10, MOST);
        z.look(0, 3, true);
        due(bits(1), z.places(9), "not known yet, but what was untold later");
        due(bits(2), z.places(10), "known from then on");
        dueOfEach(4, "fit", z::fit, 10, MOST);
    }

    private static void fits() {
        sentence("FIT: CELLS that are no WALLS and heights 1 .. 4 by which all that count are so.");
        due(256, told("size 8 by 8;").fit(0), "64 cells, 4 heights");
        due(4 * 23, told("size 5 by 5;wall 0 0 4 4;").fit(0), "no walls");
        due(0, told("size 1 by 1;wall 0 0;").fit(0), "none");
        due(4 * 36, told("door a at 0 0 high 1;person p at 1 1;").fit(0), "where a door stands, too");
        ShadowDoors high = told("size 6 by 1;shade (height=hour)*5;");
        int[] heights = {0, 1, 2, 4, 8, 0, 0, 0, 0, 0};
        for (int hour = 0; hour < heights.length; hour++) {
            int number = high.look(hour, 5, true);
            due(heights[hour], high.heights(0), "a height of " + hour);
            high.untell(number);
        }
        ShadowDoors low = told("size 3 by 1;shade height=1;");
        low.look(0, 2, true);
        due(bits(1), low.places(0), "of height 1 alone");
        due(1, low.fit(0), "of height 1 alone");
        ShadowDoors all = told("size 6 by 1;shade height;");
        all.look(0, 3, true);
        due(9, all.fit(0), "one look");
        all.look(1, 4, false);
        due(3, all.fit(0), "two looks");
        all.look(2, 2, false);
        due(1, all.fit(0), "three looks");
        all.look(2, 2, true);
        due(0, all.fit(0), "both ways");
        sentence("ASK: the HOUR and the CELL for which the most of these that are left, whatever is seen, are fewest; of like ones the first (by HOUR, then by CELL).");
        ShadowDoors x = told("size 4 by 2;shade (hour=5 or hour=7)*2+(hour=3);");
        // Of 32, by hour 3 each cell tells 4; by hour 5 or 7 the third and fourth of each row tell 8.
        due(502, x.ask(0, 0), "the first hour, the first cell");
        due(24, x.ask(1, 0), "8 or 24");
        ShadowDoors same = told("size 3 by 1;");
        due(0, same.ask(0, 0), "none tells anything: the very first");
        due(12, same.ask(1, 0), "all are left");
        ShadowDoors last = told("size 2 by 1;shade hour=23;");
        due(2301, last.ask(0, 0), "the last hour and cell");
        due(4, last.ask(1, 0), "half of them");
        due(0, told("size 2 by 1;shade hour>23;").ask(0, 0), "hour 24 is none");
        // More are shaded than not: what is seen may leave the greater part.
        ShadowDoors most = told("size 5 by 1;shade 9;");
        due(2, most.ask(0, 0), "the cell that parts them best");
        due(12, most.ask(1, 0), "8 or 12");
        most.look(0, 4, true);
        due(2, most.ask(0, 0), "of four cells");
        due(8, most.ask(1, 0), "8 and 8");
    }

    static void lookAtAll() {
        hoursAndDates();
        shades();
        shadows();
        moves();
        acts();
        undone();
        fromNowOn();
        soonestWays();
        reachAndMeet();
        barredAndLongest();
        crossesAndRooms();
        keepAndFree();
        surestAndDates();
        looks();
        fits();
    }
}
