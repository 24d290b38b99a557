/** The sentences of 'Promise 1' to 'Promise 42': what each call answers, and what it answers when something can't be. */
final class CallSentences extends Sentences {
    /** Two rooms; the door's shadow lies in the other one in all hours. */
    private static final String GAP = "size 4 by 1;wall 1 0;door a at 0 0 high 1;shade 3;";
    private static final int[] NOT_AHEAD = {LEAST, -49, -1, 49, 64, MOST};
    private static final int[] NO_CHOICE = {LEAST, -1, 2, 3, MOST};
    /** Of the gap: no cells, and the wall. */
    private static final int[] NO_CELL = {LEAST, -1, 1, 4, 32, 64, MOST};

    private CallSentences() { }

    private static void newObjects() {
        sentence("The constants: `NONE = -1`: There is none.");
        due(-1, ShadowDoors.NONE, "NONE");
        sentence("An empty QUARTER (6 by 6 CELLS).");
        ShadowDoors x = new ShadowDoors();
        for (int what = 0; what < 17; what++) {
            due(what == 4 || what == 5 ? 6 : 0, x.about(what), "about(" + what + ")");
        }
        due(bits(35, 34, 29), x.moves(35, 0), "the last cell");
        due(0, x.moves(36, 0), "none behind it");
        due(NONE, x.door(0, 0), "no door");
        due(NONE, x.lamp(0, 0), "no lamp");
        due(NONE, x.person(0, 0), "no person");
        due(1, x.rooms(0), "one room");
        due(0, x.shades(0, false), "no shadow");
        due(144, x.fit(0), "an unknown door may stand anywhere");
        due(0, x.keep(0, 35, 9, 0), "too far");
        due(NONE, x.keep(0, 35, 10, 0), "no door to be shut");
        due(NONE, x.free(0, 35, 9, 0), "no lamp to burn");
    }

    private static void tapes() {
        sentence("Twenty bytes come behind those on the TAPE, of each number the highest first: how many there are;");
        ShadowDoors x = new ShadowDoors();
        due(20, x.feed(0x73697a65, 0x20332062, 0x7920343b, 0x77616c6c, 0x20322033), "feed of 'size 3 by 4;wall 2 3'");
        due(40, x.feed(0x3b202020, 0x20202020, 0x20202020, 0x0a0a0a0a, 0x20202020), "feed of ';' and blanks");
        due(40, x.about(14), "bytes");
        due(0, x.quarter(), "quarter()");
        due(3, x.about(4), "width");
        due(4, x.about(5), "depth");
        due(1, x.about(3), "walls");
        ShadowDoors high = new ShadowDoors();
        due(20, high.feed(0x20202020, -1, LEAST, MOST, 0), "feed of bytes above 127");
        high.quarter();
        due(1, high.fault(0), "bytes above 127 are no tokens");
        due(4, high.fault(1), "the first of them");
        ShadowDoors cut = new ShadowDoors();
        cut.feed(0x636c6f75, 0x64203939, 0x39393939, 0, 0);
        cut.end(7);
        due(27, cut.feed(0x313b2020, 0x20202020, 0x20202020, 0x20202020, 0x20202020), "feed behind what was cut");
        due(0, cut.quarter(), "what was cut off is gone");
        sentence("NONE, and nothing comes, if there would be more than 1,600.");
        ShadowDoors y = new ShadowDoors();
        for (int i = 1; i <= 80; i++) {
            due(20 * i, y.feed(0x20202020, 0x20202020, 0x20202020, 0x20202020, 0x20202020), "feed " + i);
        }
        due(NONE, y.feed(-1, -1, -1, -1, -1), "feed behind 1,600");
        due(1600, y.about(14), "nothing comes");
        for (int left : new int[] {1599, 1590, 1581}) {
            y.end(left);
            due(NONE, y.feed(-1, -1, -1, -1, -1), "feed behind " + left);
            due(left, y.about(14), "nothing comes");
        }
        y.end(1580);
        due(1600, y.feed(0x20202020, 0x20202020, 0x20202020, 0x20202020, 0x2020203b), "feed to 1,600");
        y.quarter();
        due(1599, y.fault(1), "nothing came but blanks and the last byte");
        sentence("The TAPE has its first n bytes: n;");
        ShadowDoors z = new ShadowDoors();
        due(0, z.end(0), "end(0) of none");
        feed(z, "cloud 7;cloud 8;");
        due(16, z.end(16), "end of as many as there are");
        due(15, z.end(15), "end of one less");
        due(8, z.end(8), "end(8)");
        due(8, z.about(14), "bytes");
        due(0, z.quarter(), "the first of them");
        feed(z, "?");
        due(0, z.end(0), "end(0)");
        due(0, z.quarter(), "nothing");
        sentence("NONE, doing nothing, if it has not so many, or n is below 0.");
        ShadowDoors w = new ShadowDoors();
        dueOfEach(NONE, "end of none", w::end, 1, 20, 1600, MOST, -1, LEAST);
        feed(w, "cloud 7;");
        dueOfEach(NONE, "end", w::end, 9, 20, 1600, 1601, MOST, -1, -8, LEAST);
        due(8, w.about(14), "bytes stay");
        w.end(5);
        dueOfEach(NONE, "end of what was cut off", w::end, 6, 8);
    }

    private static void stir(ShadowDoors x) {
        x.later(5);
        x.look(9, 0, true);
        x.untell(x.look(3, 1, false));
        x.soonest(5, 9);
        x.go(0, 0);
        x.hour();
        x.shut(0);
        x.out(0);
        x.eclipse();
        x.image(0);
        x.image(2);
        x.eclipse();
        x.undo();
    }

    private static void quarters() {
        sentence("The TAPE (empty then) is the QUARTER");
        ShadowDoors x = new ShadowDoors();
        due(2, tell(x, STREET), "quarter()");
        due(0, x.about(14), "the tape is empty");
        due(0, x.quarter(), "the empty tape");
        due(6, x.about(4), "an empty quarter");
        tell(x, "?");
        due(0, x.about(14), "the tape is empty behind a fault");
        due(0, x.quarter(), "so it is the empty tape again");
        sentence("(all as told, no ACTS are kept, LOOKS are none, nothing lies there, BOXES are empty then; the TIME stays): how many DOORS;");
        tell(x, STREET);
        String fresh = stateOf(x);
        stir(x);
        due(2, tell(x, STREET), "quarter() again");
        due(5, x.about(13), "the time stays");
        due(true, fresh.equals(stateOf(x).replaceFirst("^((\\d+ ){13})5 ", "$10 ")), "all else is as at first");
        dueOfEach(NONE, "back", x::back, 0, 1, 2);
        due(false, x.undo(), "undo()");
        due(false, x.redo(), "redo()");
        due(0, x.look(9, 0, true), "the first look");
        quarterBehindQuarter();
        due(1, tell(x, "size 2 by 1;door a at 1 0 high 4;"), "one door");
        due(0, x.about(15), "no units of the one before");
        due(NONE, x.lamp(0, 0), "no lamp of the one before");
        due(NONE, x.person(0, 0), "no person of the one before");
        due(0, x.about(3), "no wall of the one before");
        due(0, x.shade(0, 9), "no shade of the one before");
        due(0, tell(x, ""), "no door");
        sentence("NONE: a FAULT (all stays).");
        ShadowDoors y = told(STREET);
        stir(y);
        String before = stateOf(y).replaceFirst(" \\S+$", "");
        long shadow = y.shadow(0, 19);
        for (String text : new String[] {"?", "size 2 by 2;door a at 0 0 high 1;shade 1;cloud 3;wall 1 1;person p at 0 1;lamp l at 1 0 lit 0 to 24;?", "wall", "size 9"}) {
            due(NONE, tell(y, text), "quarter() of '" + text + "'");
            due(true, before.equals(stateOf(y).replaceFirst(" \\S+$", "")), "all stays");
            due(shadow, y.shadow(0, 19), "shadows stay");
        }
        due(true, y.redo(), "what was taken back can be redone");
        due(1, y.back(2), "boxes stay");
        due(NONE, y.back(1), "empty ones too");
        sentence("Of the latest quarter() what 0: its FAULT (0), 1: its place (NONE).");
        ShadowDoors z = new ShadowDoors();
        due(0, z.fault(0), "before the first");
        due(NONE, z.fault(1), "before the first");
        tell(z, "cloud 101;");
        due(4, z.fault(0), "behind a fault");
        due(6, z.fault(1), "behind a fault");
        feed(z, "?");
        due(4, z.fault(0), "what is fed is no quarter yet");
        z.quarter();
        due(1, z.fault(0), "of the latest");
        due(0, z.fault(1), "of the latest");
        tell(z, "cloud 100;");
        due(0, z.fault(0), "behind a sound one");
        due(NONE, z.fault(1), "behind a sound one");
        sentence("NONE for another what.");
        tell(z, "cloud 101;");
        dueOfEach(NONE, "fault", z::fault, NO_CHOICE);
        dueOfEach(NONE, "about", z::about, LEAST, -1, 17, 18, MOST);
    }

    /** Of each quarter nothing is left in the next one, nor in the one behind that. */
    private static void quarterBehindQuarter() {
        String plain = "size 4 by 1;wall 1 0;door a at 0 0 high 1;person p at 0 0;";
        ShadowDoors x = told(plain + "shade date+3;cloud 40;");
        due(2, x.go(0, 2), "by the shadow");
        x.look(0, 2, true);
        x.untell(0);
        for (int i = 0; i < 3; i++) {
            tell(x, plain);
            due(0, x.shadow(0, 0), "no shadow");
            due(0, x.about(15), "no unit");
            due(0, x.person(0, 1), "he is not gone");
            due(0, x.person(0, 0), "he is where he was told");
            due(12, x.fit(0), "no look");
        }
        tell(x, plain + "shade 3;cloud 40;");
        for (int i = 0; i < 3; i++) {
            tell(x, plain + "shade 3;");
            due(1, x.surest(0, 3, 1, 1), "no cloud");
            due(0, x.look(0, 2, false), "the first look");
            due(8, x.fit(0), "it counts as it was told");
        }
    }

    private static void things() {
        sentence("Of a DOOR what 0: its CELL, 1: height, 2: 1 if OPEN now, else 0, 3: 1 if SHUT, else 0;");
        ShadowDoors x = told(STREET);
        long[][] doors = {{1, 2, 1, 0}, {9, 1, 0, 0}};
        for (int door = 0; door < 2; door++) {
            for (int what = 0; what < 4; what++) {
                due(doors[door][what], x.door(door, what), "door(" + door + ", " + what + ")");
            }
        }
        hours(x, 7);
        due(0, x.door(1, 2), "not open in 7");
        x.hour();
        due(1, x.door(1, 2), "open in 8");
        x.shut(1);
        due(0, x.door(1, 2), "shut is not open");
        due(1, x.door(1, 3), "shut");
        due(0, x.door(0, 3), "the other is not");
        hours(x, 11);
        x.shut(1);
        due(1, x.door(1, 2), "open in 19");
        x.hour();
        due(0, x.door(1, 2), "not open in 20");
        due(0, x.door(1, 3), "nor shut");
        due(63, told("size 8 by 8;door a at 7 7 high 1;").door(0, 0), "the last cell");
        sentence("Of a LAMP what 0: its CELL, 1: 1 if lit now, else 0, 2: 1 if OUT, else 0;");
        ShadowDoors y = told("lamp a at 5 5 lit 1 to 2;lamp b at 0 0 lit 0 to 24;");
        due(35, y.lamp(0, 0), "the cell");
        due(0, y.lamp(0, 1), "not lit in 0");
        due(0, y.lamp(0, 2), "not out");
        y.hour();
        due(1, y.lamp(0, 1), "lit in 1");
        y.out(0);
        due(0, y.lamp(0, 1), "one that is out is not lit");
        due(1, y.lamp(0, 2), "out");
        due(1, y.lamp(1, 1), "the other is lit");
        due(0, y.lamp(1, 2), "the other is not out");
        y.out(0);
        y.hour();
        due(0, y.lamp(0, 1), "not lit in 2");
        sentence("Of a PERSON what 0: the CELL, 1: 1 if gone in this HOUR, else 0;");
        ShadowDoors z = told(STREET);
        due(5, z.person(0, 0), "the cell");
        due(0, z.person(0, 1), "not gone");
        z.go(0, 0);
        due(0, z.person(0, 0), "the cell to which he went");
        due(1, z.person(0, 1), "gone");
        due(0, z.person(1, 1), "the other is not");
        z.go(1, 8);
        due(1, z.person(1, 1), "who stays has gone, too");
        z.hour();
        due(0, z.person(0, 1), "not gone in the next hour");
        due(0, z.person(1, 1), "not gone in the next hour");
        sentence("NONE if there is none such, or for another what.");
        ShadowDoors none = new ShadowDoors();
        for (int what = 0; what < 4; what++) {
            int asked = what;
            dueOfEach(NONE, "door of none", door -> none.door(door, asked), 0, 1, 7);
            dueOfEach(NONE, "lamp of none", lamp -> none.lamp(lamp, asked), 0, 1, 3);
            dueOfEach(NONE, "person of none", person -> none.person(person, asked), 0, 1, 3);
            dueOfEach(NONE, "door", door -> x.door(door, asked), LEAST, -1, 2, 8, 32, MOST);
            dueOfEach(NONE, "lamp", lamp -> y.lamp(lamp, asked), LEAST, -1, 2, 4, 32, MOST);
            dueOfEach(NONE, "person", person -> z.person(person, asked), LEAST, -1, 2, 4, 32, MOST);
        }
        dueOfEach(NONE, "door what", what -> x.door(0, what), LEAST, -1, 4, 5, MOST);
        dueOfEach(NONE, "lamp what", what -> y.lamp(0, what), LEAST, -1, 3, 4, MOST);
        dueOfEach(NONE, "person what", what -> z.person(0, what), LEAST, -1, 2, 3, MOST);
    }

    private static void shadows() {
        sentence("SHADE of a DOOR n HOURS from now (0 .. 48), not in an ECLIPSE;");
        ShadowDoors x = told("size 4 by 2;wall 2 0;door a at 1 0 high 2;door b at 0 1 high 1 open 5 to 9;lamp l at 0 0 lit 23 to 24;shade 24*date+hour;");
        due(0, x.shade(0, 0), "now");
        due(48, x.shade(1, 48), "48 from now");
        x.hour();
        due(49, x.shade(0, 48), "48 from now, an hour later");
        x.eclipse();
        due(1, x.shade(0, 0), "as if there were no eclipse");
        x.eclipse();
        x.shut(0);
        due(1, x.shade(0, 0), "of one that is shut");
        x.undo();
        sentence("-1000000 if one can't be.");
        dueOfEach(-1000000, "shade n", n -> x.shade(0, n), NOT_AHEAD);
        dueOfEach(-1000000, "shade of no door", door -> x.shade(door, 0), LEAST, -1, 2, 8, MOST);
        due(-1000000, new ShadowDoors().shade(0, 0), "shade where no door is");
        sentence("CELLS in the SHADOW of a DOOR n HOURS from now (0 .. 48), as bits (by ECLIPSE, LAMPS as they are);");
        due(bits(5), x.shadow(1, 0), "now");
        due(bits(5, 6, 7), x.shadow(1, 48), "48 from now");
        due(bits(3), x.shadow(0, 1), "no wall");
        due(bits(3), x.shadow(0, 22), "by lamp and shade");
        x.eclipse();
        due(bits(3), x.shadow(0, 22), "by the lamp");
        due(0, x.shadow(0, 1), "an eclipse");
        x.out(0);
        due(0, x.shadow(0, 22), "the lamp is out");
        x.out(0);
        x.eclipse();
        due(1L << 63, told("size 8 by 8;door a at 6 7 high 1;shade 1;").shadow(0, 0), "the last of 64 cells");
        ShadowDoors backwards = told("size 8 by 1;door a at 0 0 high 1;shade hour%3+1;");
        for (int n = 48; n >= 0; n--) {
            due((2L << n % 24 % 3) - 1 << 1, backwards.shadow(0, n), "the farthest hour first, " + n);
        }
        sentence("CELLS in the SHADOW of some DOOR (OPEN or not: false; OPEN alone: true) n HOURS from now (0 .. 48), as bits;");
        due(bits(5), x.shades(0, false), "now, of all");
        due(0, x.shades(0, true), "now, of open ones");
        due(bits(3, 5, 6, 7), x.shades(48, false), "48 from now, of all");
        due(bits(3), x.shades(48, true), "48 from now, of open ones");
        due(bits(3, 5, 6, 7), x.shades(4, true), "both open");
        due(bits(3), x.shades(8, true), "one not open any more");
        x.shut(0);
        due(0, x.shades(48, true), "one shut, one not open");
        due(bits(3, 5, 6, 7), x.shades(48, false), "shut or not");
        x.shut(0);
        due(0, told("size 4 by 1;").shades(0, false), "no door");
        StringBuilder doors = new StringBuilder("size 8 by 8;shade 1;");
        for (int i = 0; i < 8; i++) {
            doors.append("door d").append((char) ('a' + i)).append(" at 3 ").append(i).append(" high 1;");
        }
        ShadowDoors eight = told(doors.toString());
        long column = bits(4, 12, 20, 28, 36, 44, 52, 60);
        for (int n : new int[] {0, 24, 48}) {
            due(column, eight.shades(n, false), "of 8 doors");
            due(column, eight.shades(n, true), "of 8 doors, all open");
        }
        due(bits(60), eight.shadow(7, 48), "of the eighth");
        tell(eight, "size 8 by 8;shade 1;door a at 3 0 high 1;");
        due(bits(4), eight.shades(0, false), "of one, where 8 were");
        sentence("0 for another n.");
        dueOfEach(0, "shades", n -> x.shades(n, false), NOT_AHEAD);
        dueOfEach(0, "shades", n -> x.shades(n, true), NOT_AHEAD);
        sentence("CELLS to which one can MOVE from a CELL n HOURS from now (0 .. 48), as bits;");
        due(bits(1, 0, 5), x.moves(1, 0), "now");
        due(bits(1, 0, 5, 3), x.moves(1, 48), "48 from now");
        due(bits(7, 3, 6, 4), x.moves(7, 4), "in a shadow");
        due(bits(7, 3, 6), x.moves(7, 8), "of a door that is not open then");
        sentence("0 if one can't be, or it is a WALL.");
        dueOfEach(0, "moves n", n -> x.moves(1, n), NOT_AHEAD);
        dueOfEach(0, "moves of no cell", cell -> x.moves(cell, 0), LEAST, -1, 8, 63, 64, 65, MOST);
        due(0, x.moves(2, 0), "moves of a wall");
        ShadowDoors full = told("size 8 by 8;");
        dueOfEach(0, "moves of no cell of 64", cell -> full.moves(cell, 0), LEAST, -1, 64, 65, 127, MOST);
        sentence("0 if one can't be.");
        dueOfEach(0, "shadow n", n -> x.shadow(1, n), NOT_AHEAD);
        dueOfEach(0, "shadow of no door", door -> x.shadow(door, 4), LEAST, -1, 2, 8, MOST);
        due(0, new ShadowDoors().shadow(0, 0), "shadow where no door is");
        dueOfEach(0, "reach n", n -> x.reach(1, n), NOT_AHEAD);
        dueOfEach(0, "reach from no cell", cell -> x.reach(cell, 1), LEAST, -1, 8, 63, 64, MOST);
        due(0, x.reach(2, 0), "reach from a wall");
        dueOfEach(0, "barred n", n -> x.barred(1, n), NOT_AHEAD);
        dueOfEach(0, "barred from no cell", cell -> x.barred(cell, 1), LEAST, -1, 8, 63, 64, MOST);
        due(0, x.barred(2, 0), "barred from a wall");
    }

    private static void going() {
        sentence("One goes: 1 as one goes next door, 2 by a SHADOW, 0 as one stays;");
        String row = "size 5 by 1;wall 3 0;door a at 0 0 high 4;shade height;person p at 0 0;person q at 4 0;";
        ShadowDoors x = told(row);
        due(2, x.go(0, 2), "by a shadow, from the door");
        due(2, x.go(1, 0), "by a shadow, to the door");
        x.undo();
        due(0, x.go(1, 4), "one stays");
        x.hour();
        due(1, x.go(0, 1), "next door");
        due(1, x.person(0, 0), "he is there");
        ShadowDoors both = told(row);
        due(1, both.go(0, 1), "next door, though by the shadow, too");
        ShadowDoors doors = told("size 5 by 1;wall 1 0 3 0;door a at 0 0 high 3;door b at 4 0 high 1;shade (height-2)*2;person p at 0 0;");
        due(2, doors.go(0, 4), "from door to door");
        ShadowDoors edge = told("size 3 by 2;person p at 2 0;");
        due(NONE, edge.go(0, 3), "round the edge");
        due(1, edge.go(0, 5), "down");
        sentence("NONE, doing nothing, if it is no MOVE, he went already, or one can't be.");
        ShadowDoors y = told(row);
        y.shut(0);
        y.undo();
        String before = stateOf(y);
        due(NONE, y.go(1, 2), "no move");
        due(NONE, y.go(1, 3), "to a wall");
        dueOfEach(NONE, "go to no cell", cell -> y.go(0, cell), LEAST, -1, 5, 63, 64, MOST);
        dueOfEach(NONE, "go of nobody", person -> y.go(person, 0), LEAST, -1, 2, 4, 32, MOST);
        dueSame(before, y, "go");
        due(true, y.redo(), "redo() behind what was no act");
        y.undo();
        y.go(0, 1);
        String gone = stateOf(y);
        dueOfEach(NONE, "go of one who went", cell -> y.go(0, cell), 0, 1, 2);
        dueSame(gone, y, "go of one who went");
        ShadowDoors shut = told(row);
        shut.shut(0);
        due(NONE, shut.go(0, 4), "the door is shut");
        sentence("(An ACT.)");
        ShadowDoors z = told(STREET);
        z.go(0, 5);
        due(1, z.about(10), "to stay is one, too");
        z.hour();
        due(2, z.about(10), "an hour");
        z.shut(0);
        due(3, z.about(10), "to shut");
        z.out(0);
        due(4, z.about(10), "to put out");
        z.eclipse();
        due(5, z.about(10), "an eclipse");
        z.undo();
        z.redo();
        due(5, z.about(10), "undo and redo are none");
        z.image(0);
        z.look(1, 1, true);
        z.later(1);
        z.untell(0);
        z.soonest(0, 1);
        due(5, z.about(10), "none of these");
    }

    private static void acts() {
        sentence("An HOUR goes by: how many did;");
        ShadowDoors x = told(STREET);
        for (int i = 1; i <= 30; i++) {
            due(i, x.hour(), "hour()");
        }
        x.undo();
        due(30, x.hour(), "hour() behind undo()");
        tell(x, "");
        due(1, x.hour(), "hour() of another quarter");
        // An object is used for 512 calls: what lies behind is looked at all the same.
        sentence("NONE, doing nothing, behind 2,000.");
        ShadowDoors late = told(STREET);
        hours(late, 1999);
        due(2000, late.hour(), "the 2,000th");
        due(1, late.go(0, 0), "he goes");
        String end = stateOf(late);
        due(NONE, late.hour(), "behind it");
        dueSame(end, late, "hour()");
        due(1, late.person(0, 1), "he is gone in it still");
        due(2048 % 24 - 12, late.shade(0, 48), "shade as long behind it as can be");
        sentence("A DOOR is SHUT, or is so no more: 1 if it is then, else 0;");
        ShadowDoors y = told("door a at 0 0 high 1;door b at 1 0 high 1 open 5 to 6;lamp k at 0 0 lit 5 to 6;lamp l at 0 0 lit 0 to 1;");
        due(1, y.shut(0), "shut");
        due(1, y.shut(1), "one that is not open");
        due(0, y.shut(0), "no more");
        due(1, y.shut(0), "and again");
        due(1, y.door(1, 3), "the other stays so");
        sentence("A LAMP is put OUT, or is so no more: 1 if it is then, else 0;");
        due(1, y.out(0), "one that is not lit");
        due(1, y.out(1), "one that is lit");
        due(0, y.out(1), "no more");
        due(1, y.out(1), "and again");
        due(1, y.lamp(0, 2), "the other stays so");
        sentence("NONE, doing nothing, if there is none such.");
        y.undo();
        String before = stateOf(y);
        dueOfEach(NONE, "shut", y::shut, LEAST, -1, 2, 7, 8, 32, 33, MOST);
        dueOfEach(NONE, "out", y::out, LEAST, -1, 2, 3, 4, 32, 33, MOST);
        dueSame(before, y, "shut and out of none");
        due(true, y.redo(), "redo() behind what was no act");
        due(NONE, new ShadowDoors().shut(0), "shut where no door is");
        due(NONE, new ShadowDoors().out(0), "out where no lamp is");
        sentence("An ECLIPSE begins, or is over: true if it is there then.");
        ShadowDoors z = new ShadowDoors();
        due(true, z.eclipse(), "it begins");
        z.hour();
        due(1, z.about(9), "it lasts");
        due(false, z.eclipse(), "it is over");
        due(true, z.eclipse(), "and begins again");
        sentence("UNDO: true; false if there is none.");
        due(false, new ShadowDoors().undo(), "undo() at first");
        ShadowDoors u = told(STREET);
        due(false, u.undo(), "undo() behind quarter()");
        u.shut(2);
        due(false, u.undo(), "undo() behind what was no act");
        u.hour();
        due(true, u.undo(), "undo()");
        due(false, u.undo(), "a second one");
        sentence("REDO: true; false if there is none.");
        due(false, new ShadowDoors().redo(), "redo() at first");
        due(true, u.redo(), "redo()");
        due(false, u.redo(), "a second one");
        u.undo();
        u.eclipse();
        due(false, u.redo(), "another act came");
        due(true, u.undo(), "undo() of that");
        due(true, u.redo(), "redo() of that");
    }

    private static void ways() {
        sentence("SOONEST: HOURS; NONE if there is no way, or one can't be (a WALL, too).");
        ShadowDoors x = told(GAP);
        due(1, x.soonest(0, 3), "one hour");
        due(0, x.soonest(0, 0), "from a cell to itself");
        due(NONE, told("size 3 by 1;wall 1 0;").soonest(0, 2), "no way");
        dueOfEach(NONE, "soonest from", from -> x.soonest(from, 0), NO_CELL);
        dueOfEach(NONE, "soonest to", to -> x.soonest(0, to), NO_CELL);
        due(NONE, x.soonest(1, 1), "from a wall to itself");
        sentence("The CELLS come to lie there then, HOUR by HOUR (behind NONE: nothing).");
        x.soonest(0, 3);
        dueWay(x, 3);
        x.soonest(3, 0);
        dueWay(x, 0);
        x.soonest(2, 2);
        dueWay(x);
        x.soonest(0, 3);
        x.soonest(0, 1);
        dueWay(x);
        x.soonest(0, 3);
        x.soonest(-1, 0);
        dueWay(x);
        x.soonest(0, 2);
        x.shut(0);
        x.soonest(0, 2);
        dueWay(x);
        ShadowDoors far = told("size 5 by 1;");
        far.soonest(0, 4);
        dueWay(far, 1, 2, 3, 4);
        far.soonest(1, 0);
        dueWay(far, 0);
        sentence("REACH (n 0 .. 48), as bits;");
        due(bits(2), told(GAP).reach(2, 0), "behind none");
        due(bits(0, 2, 3), told(GAP).reach(2, 48), "behind 48");
        due(-1L, told("size 8 by 8;").reach(63, 48), "64 cells");
        sentence("MEET what 0: HOURS, 1: the CELL;");
        ShadowDoors y = told("size 4 by 1;person p at 0 0;person q at 3 0;person r at 3 0;wall 1 0;door a at 0 0 high 1;shade 3;");
        due(1, y.meet(0, 1, 0), "hours");
        due(0, y.meet(0, 1, 1), "the cell");
        due(0, y.meet(1, 2, 0), "no hours");
        due(3, y.meet(1, 2, 1), "where both are");
        sentence("NONE if they can't, or one can't be (the same one twice, too).");
        dueOfEach(NONE, "meet of nobody", person -> y.meet(person, 1, 0), LEAST, -1, 3, 4, 32, MOST);
        dueOfEach(NONE, "meet of nobody", person -> y.meet(0, person, 1), LEAST, -1, 3, 4, 32, MOST);
        dueOfEach(NONE, "meet what", what -> y.meet(0, 1, what), NO_CHOICE);
        for (int what = 0; what < 2; what++) {
            int asked = what;
            dueOfEach(NONE, "meet of the same", person -> y.meet(person, person, asked), -1, 0, 1, 2, 3);
        }
        y.shut(0);
        due(NONE, y.meet(0, 1, 0), "they can't");
        due(NONE, y.meet(0, 1, 1), "they can't");
        sentence("BARRED from a CELL (n 0 .. 48), as bits;");
        due(bits(0, 3), told(GAP).barred(2, 0), "within none");
        due(0, told(GAP).barred(2, 48), "within 48");
        due(bits(2, 3), told("size 4 by 1;wall 1 0;").barred(0, 48), "within 48, no way");
        due(~bits(63), told("size 8 by 8;").barred(63, 0), "64 cells");
    }

    private static void doorsAndRooms() {
        sentence("LONGEST what 0: how many HOURS from now, 1: how many CELLS; NONE if one can't be.");
        ShadowDoors x = told("size 6 by 1;door a at 0 0 high 3;door b at 5 0 high 1;shade (height-2)*(hour%6);");
        due(5, x.longest(0, 0), "hours from now");
        due(5, x.longest(0, 1), "cells");
        hours(x, 2);
        due(3, x.longest(1, 0), "hours from now, two hours later");
        dueOfEach(NONE, "longest of no door", door -> x.longest(door, 0), LEAST, -1, 2, 8, MOST);
        dueOfEach(NONE, "longest of no door", door -> x.longest(door, 1), LEAST, -1, 2, 8, MOST);
        dueOfEach(NONE, "longest what", what -> x.longest(0, what), NO_CHOICE);
        due(NONE, new ShadowDoors().longest(0, 0), "longest where no door is");
        sentence("CROSS what 0: how many HOURS from now, 1: the least such CELL;");
        due(1, x.cross(0, 1, 0), "hours from now");
        due(2, x.cross(0, 1, 1), "the least of two cells");
        due(1, x.cross(1, 0, 0), "the other way about");
        due(2, x.cross(1, 0, 1), "the other way about");
        sentence("NONE if there is none, or one can't be (the same one twice, too).");
        dueOfEach(NONE, "cross of no door", door -> x.cross(door, 0, 0), LEAST, -1, 2, 8, 32, MOST);
        dueOfEach(NONE, "cross of no door", door -> x.cross(1, door, 1), LEAST, -1, 2, 8, 32, MOST);
        dueOfEach(NONE, "cross what", what -> x.cross(0, 1, what), NO_CHOICE);
        for (int what = 0; what < 2; what++) {
            int asked = what;
            dueOfEach(NONE, "cross of the same", door -> x.cross(door, door, asked), -1, 0, 1, 2);
        }
        x.eclipse();
        due(NONE, x.cross(0, 1, 0), "none");
        due(NONE, x.cross(0, 1, 1), "none");
        sentence("How many ROOMS there are, those that are JOINED n HOURS from now (0 .. 48) counted once; NONE for another number.");
        ShadowDoors y = told("size 3 by 1;wall 1 0;door a at 0 0 high 1;shade (24*date+hour=48)*2;");
        due(2, y.rooms(0), "now");
        due(2, y.rooms(47), "47 from now");
        due(1, y.rooms(48), "48 from now");
        dueOfEach(NONE, "rooms", y::rooms, NOT_AHEAD);
        sentence("Whether the ROOMS of two CELLS are one, or JOINED, n HOURS from now: 1, else 0; NONE if one can't be (a WALL, too).");
        due(0, y.hears(0, 2, 0), "not joined");
        due(0, y.hears(2, 0, 47), "not joined");
        due(1, y.hears(0, 2, 48), "joined");
        due(1, y.hears(2, 0, 48), "joined, the other way about");
        due(1, y.hears(2, 2, 0), "one cell");
        due(1, told("size 3 by 3;wall 1 1;").hears(0, 8, 0), "one room");
        dueOfEach(NONE, "hears n", n -> y.hears(0, 2, n), NOT_AHEAD);
        dueOfEach(NONE, "hears of no cell", cell -> y.hears(cell, 0, 0), LEAST, -1, 1, 3, 64, MOST);
        dueOfEach(NONE, "hears of no cell", cell -> y.hears(0, cell, 0), LEAST, -1, 1, 3, 64, MOST);
        due(NONE, y.hears(1, 1, 0), "a wall twice");
    }

    private static void fewest() {
        sentence("KEEP (n 1 .. 24) what 0: how many DOORS, 1: which, as bits; NONE if 3 are not enough, or one can't be.");
        String late = "size 4 by 1;wall 1 0;door z at 3 0 high 1;door a at 0 0 high 3;lamp l at 2 0 lit 0 to 1;shade (hour=23)*(height=3)*2;";
        ShadowDoors x = told(late);
        due(0, x.keep(0, 2, 1, 0), "within 1");
        due(0, x.keep(0, 2, 23, 0), "within 23");
        due(1, x.keep(0, 2, 24, 0), "within 24");
        due(bits(1), x.keep(0, 2, 24, 1), "which");
        due(0, x.keep(0, 2, 23, 1), "none");
        dueOfEach(NONE, "keep n", n -> x.keep(0, 2, n, 0), LEAST, -1, 0, 25, 48, MOST);
        dueOfEach(NONE, "keep what", what -> x.keep(0, 2, 24, what), NO_CHOICE);
        dueOfEach(NONE, "keep from", from -> x.keep(from, 2, 24, 0), NO_CELL);
        dueOfEach(NONE, "keep to", to -> x.keep(0, to, 24, 0), NO_CELL);
        due(NONE, x.keep(2, 3, 1, 0), "next door all doors are not enough");
        due(NONE, x.keep(2, 3, 1, 1), "next door all doors are not enough");
        due(NONE, x.keep(2, 2, 1, 0), "one is there already");
        sentence("FREE (n 1 .. 24) what 0: how many LAMPS, 1: which, as bits; NONE if all are not enough, or one can't be.");
        ShadowDoors y = told("size 5 by 1;wall 3 0;door a at 1 0 high 3;lamp k at 2 0 lit 0 to 1;lamp l at 0 0 lit 23 to 24;");
        due(0, y.free(1, 4, 24, 0), "within 24");
        due(0, y.free(1, 4, 24, 1), "none");
        due(1, y.free(1, 4, 23, 0), "within 23");
        due(bits(1), y.free(1, 4, 23, 1), "which");
        due(1, y.free(1, 4, 1, 0), "within 1");
        due(NONE, y.free(0, 4, 1, 0), "all are not enough");
        due(NONE, y.free(0, 4, 1, 1), "all are not enough");
        due(0, y.free(4, 4, 1, 0), "one is there already");
        dueOfEach(NONE, "free n", n -> y.free(1, 4, n, 0), LEAST, -1, 0, 25, 48, MOST);
        dueOfEach(NONE, "free what", what -> y.free(1, 4, 24, what), NO_CHOICE);
        dueOfEach(NONE, "free from", from -> y.free(from, 4, 24, 0), LEAST, -1, 3, 5, 64, MOST);
        dueOfEach(NONE, "free to", to -> y.free(1, to, 24, 0), LEAST, -1, 3, 5, 64, MOST);
    }

    private static void oddsAndDates() {
        sentence("SUREST the upper part (0), the lower part (1), in lowest terms (0 of 1 if it can't be); NONE if one can't be.");
        ShadowDoors x = told(GAP + "cloud 42;");
        due(29, x.surest(0, 3, 1, 0), "58 of 100");
        due(50, x.surest(0, 3, 1, 1), "58 of 100");
        due(1, x.surest(2, 3, 1, 0), "1 of 1");
        due(1, x.surest(2, 3, 1, 1), "1 of 1");
        ShadowDoors most = told(GAP + "cloud 99;");
        due(10000000000000000L - 9227446944279201L, most.surest(0, 3, 8, 0), "1 less 99 of 100 to the eighth");
        due(10000000000000000L, most.surest(0, 3, 8, 1), "100 to the eighth");
        x.shut(0);
        for (int n = 1; n <= 8; n++) {
            due(0, x.surest(0, 3, n, 0), "0 of 1");
            due(1, x.surest(0, 3, n, 1), "0 of 1");
        }
        x.shut(0);
        dueOfEach(NONE, "surest n", n -> x.surest(0, 3, n, 0), LEAST, -1, 0, 9, 24, MOST);
        dueOfEach(NONE, "surest part", part -> x.surest(0, 3, 1, part), NO_CHOICE);
        dueOfEach(NONE, "surest from", from -> x.surest(from, 3, 1, 0), NO_CELL);
        dueOfEach(NONE, "surest to", to -> x.surest(0, to, 1, 1), NO_CELL);
        sentence("DATES (n 1 .. 24) what 0: how many, 1: the first, 2: the last one (NONE); NONE if one can't be.");
        ShadowDoors y = told("size 4 by 1;wall 1 0;door a at 0 0 high 1;shade (hour=23)*(date%2)*(date<90)*3;");
        due(45, y.dates(0, 3, 24, 0), "how many");
        due(1, y.dates(0, 3, 24, 1), "the first");
        due(89, y.dates(0, 3, 24, 2), "the last");
        due(0, y.dates(0, 3, 23, 0), "none");
        due(NONE, y.dates(0, 3, 23, 1), "no first");
        due(NONE, y.dates(0, 3, 23, 2), "no last");
        due(100, y.dates(3, 2, 1, 0), "all");
        due(0, y.dates(3, 2, 1, 1), "all");
        due(99, y.dates(3, 2, 1, 2), "all");
        due(100, y.dates(3, 3, 1, 0), "one is there already");
        dueOfEach(NONE, "dates n", n -> y.dates(0, 3, n, 0), LEAST, -1, 0, 25, 48, MOST);
        dueOfEach(NONE, "dates what", what -> y.dates(0, 3, 24, what), LEAST, -1, 3, 4, MOST);
        for (int what = 0; what < 3; what++) {
            int asked = what;
            dueOfEach(NONE, "dates from", from -> y.dates(from, 3, 24, asked), NO_CELL);
            dueOfEach(NONE, "dates to", to -> y.dates(0, to, 24, asked), NO_CELL);
        }
        sentence("The i-th number of what lies there; NONE if there is none such.");
        ShadowDoors z = told("size 4 by 1;");
        dueOfEach(NONE, "lies of nothing", z::lies, LEAST, -1, 0, 1, 47, 48, MOST);
        z.soonest(3, 0);
        due(2, z.lies(0), "the first");
        due(0, z.lies(2), "the last");
        dueOfEach(NONE, "lies", z::lies, LEAST, -1, 3, 47, 48, 49, MOST);
        z.reach(0, 4);
        z.hour();
        z.undo();
        due(2, z.lies(0), "it lies there still");
        ShadowDoors longest = told("size 3 by 1;wall 1 0;door a at 0 0 high 1;shade (24*date+hour=47)*2;");
        due(48, longest.soonest(0, 2), "48 hours");
        due(0, longest.lies(46), "the last but one of 48");
        due(2, longest.lies(47), "the last of 48");
        dueOfEach(NONE, "lies behind 48", longest::lies, 48, 49, MOST);
    }

    private static void looks() {
        sentence("A LOOK: its number; NONE, doing nothing, if one can't be (a WALL, too), or there are 30.");
        ShadowDoors x = told(GAP);
        dueOfEach(NONE, "look in no hour", hour -> x.look(hour, 0, true), LEAST, -1, 24, 25, 48, MOST);
        dueOfEach(NONE, "look at no cell", cell -> x.look(0, cell, false), NO_CELL);
        due(0, x.about(12), "no look");
        due(12, x.fit(0), "nothing was told");
        due(0, x.look(23, 3, false), "the last hour, the last cell");
        due(1, x.look(0, 0, false), "the first hour, the first cell");
        for (int i = 2; i < 30; i++) {
            due(i, x.look(i % 24, 0, false), "look " + i);
        }
        String before = stateOf(x);
        due(NONE, x.look(0, 3, true), "there are 30");
        dueSame(before, x, "look");
        x.untell(29);
        due(NONE, x.look(0, 3, true), "there are 30, though one is untold");
        tell(x, GAP);
        due(0, x.look(0, 3, true), "in another quarter");
        sentence("It is UNTOLD: true; false if it is so already, or there is none such.");
        ShadowDoors y = told(GAP);
        dueOfEach(0, "untell of none", look -> y.untell(look) ? 1 : 0, LEAST, -1, 0, 1, 29, 30, 32, MOST);
        y.look(0, 2, true);
        y.look(0, 3, true);
        due(true, y.untell(1), "untell(1)");
        due(false, y.untell(1), "so already");
        due(8 - 4, y.fit(0), "the other counts");
        due(true, y.untell(0), "untell(0)");
        due(false, y.untell(0), "so already");
        due(12, y.fit(0), "none counts");
        dueOfEach(0, "untell", look -> y.untell(look) ? 1 : 0, LEAST, -1, 2, 29, 30, 32, MOST);
        y.later(1);
        due(false, y.untell(1), "so already, later");
        due(12, y.fit(0), "it was untold then, not now");
        due(2, y.about(12), "two looks");
        due(2, y.look(0, 2, true), "the third");
        sentence("So much later (0 .. 1000): the TIME;");
        ShadowDoors z = new ShadowDoors();
        due(0, z.later(0), "later(0)");
        due(1, z.later(1), "later(1)");
        due(1001, z.later(1000), "later(1000)");
        due(1001, z.about(13), "the time");
        sentence("NONE, doing nothing, for another number, or if it would be above 100,000.");
        dueOfEach(NONE, "later", z::later, LEAST, -1000, -1, 1001, 100000, MOST);
        due(1001, z.about(13), "the time");
        for (int i = 2; i < 100; i++) {
            due(1000 * i + 1, z.later(1000), "later(1000)");
        }
        dueOfEach(NONE, "later, above 100,000", z::later, 1000, MOST);
        due(99999 - 998, z.about(13), "the time");
        due(100000, z.later(999), "to 100,000");
        dueOfEach(NONE, "later, above 100,000", z::later, 1, 2, 1000);
        due(100000, z.later(0), "later(0)");
        z.look(0, 0, true);
        due(144, z.fit(99999), "not known before");
        due(0, z.fit(100000), "known then");
    }

    private static void fits() {
        String row = "size 6 by 1;wall 5 0;shade (hour-12)*height/2;";
        sentence("FIT: how many (of all heights).");
        ShadowDoors x = told(row);
        due(20, x.fit(0), "5 cells, 4 heights");
        dueOfEach(20, "fit", x::fit, LEAST, -1, MOST);
        sentence("CELLS of those that FIT, as bits.");
        due(bits(0, 1, 2, 3, 4), x.places(0), "all but the wall");
        due(-1L, told("size 8 by 8;").places(0), "64 cells");
        x.look(14, 3, true);
        due(bits(0, 1, 2), x.places(0), "to its left");
        due(9, x.fit(0), "of heights 3 and 4, 2 .. 4, 1 .. 4");
        due(bits(0, 1, 2, 3, 4), x.places(-1), "before it was told");
        sentence("Heights of those that FIT, as bits (bit 0: 1).");
        due(15, told(row).heights(0), "all");
        due(15, x.heights(0), "all still");
        x.look(14, 2, true);
        due(14, x.heights(0), "not 1");
        x.look(14, 1, true);
        due(12, x.heights(0), "3 and 4");
        x.look(14, 4, false);
        due(4, x.heights(0), "3");
        due(bits(0), x.places(0), "where it stands");
        x.look(12, 0, true);
        due(0, x.heights(0), "none");
        due(0, x.places(0), "none");
        due(0, x.fit(0), "none");
        sentence("ASK what 0: 100 * the HOUR and the CELL, 1: how many are left at the most; NONE if none FITS, or for another what.");
        due(NONE, x.ask(0, 0), "none fits");
        due(NONE, x.ask(1, 0), "none fits");
        due(901, x.ask(0, -1), "as known before all looks");
        due(10, x.ask(1, -1), "half of 20");
        dueOfEach(NONE, "ask", what -> x.ask(what, -1), NO_CHOICE);
        ShadowDoors corner = told("size 8 by 8;shade hour=23;");
        due(2301, corner.ask(0, 0), "the last hour");
        due(252, corner.ask(1, 0), "4 or 252");
        ShadowDoors wall = told("size 3 by 1;wall 0 0;");
        due(1, wall.ask(0, 0), "no look at a wall");
        due(NONE, told("size 1 by 1;wall 0 0;").ask(0, 0), "no cell at all");
        ShadowDoors one = told("size 1 by 1;shade height;");
        due(0, one.ask(0, 0), "one cell");
        due(4, one.ask(1, 0), "four heights");
    }

    private static void boxes() {
        sentence("Where PEOPLE are, what is SHUT, OUT, an ECLIPSE, HOURS are kept in a BOX 0 .. 2: HOURS that were;");
        ShadowDoors x = told(STREET);
        due(0, x.image(0), "image(0)");
        hours(x, 30);
        x.go(0, 6);
        x.shut(1);
        x.out(0);
        x.eclipse();
        due(30, x.image(1), "image(1)");
        due(34, x.about(10), "it is no act");
        x.eclipse();
        x.hour();
        due(31, x.image(2), "image(2)");
        sentence("All is as it was kept (no ACTS are kept then): HOURS that were;");
        due(0, x.back(0), "back(0)");
        due(0, x.about(8) + x.about(9) + x.door(1, 3) + x.lamp(0, 2) + x.person(0, 1), "as at first");
        due(5, x.person(0, 0), "as at first");
        due(30, x.back(1), "back(1)");
        due(5, x.about(9) + x.door(1, 3) + x.lamp(0, 2) + x.person(0, 1) + x.about(7), "as it was kept");
        due(6, x.person(0, 0), "as it was kept");
        due(0, x.door(0, 3) + x.person(1, 1), "as it was kept");
        due(0, x.about(10) + x.about(11), "no acts are kept");
        due(false, x.undo(), "undo()");
        due(false, x.redo(), "redo()");
        x.hour();
        x.hour();
        x.undo();
        due(31, x.back(2), "back(2)");
        due(0, x.about(9), "as it was kept");
        due(0, x.about(10) + x.about(11), "no acts are kept");
        x.shut(1);
        due(30, x.back(1), "back(1) once more");
        due(1, x.door(1, 3), "what came later did not change it");
        x.hour();
        due(31, x.image(1), "another is kept there");
        due(31, x.back(1), "that one is");
        sentence("NONE if there is none such.");
        dueOfEach(NONE, "image", x::image, LEAST, -1, 3, 4, 32, MOST);
        sentence("NONE, doing nothing, if nothing was.");
        ShadowDoors y = told(STREET);
        y.image(1);
        y.hour();
        y.shut(0);
        y.undo();
        String before = stateOf(y);
        dueOfEach(NONE, "back", y::back, LEAST, -1, 0, 2, 3, 4, 32, 33, MOST);
        dueSame(before, y, "back");
        due(true, y.redo(), "redo() behind it");
    }

    private static void abouts() {
        sentence("What 0: DOORS, 1: LAMPS, 2: PEOPLE, 3: WALLS, 4: WIDTH, 5: DEPTH, 6: the HOUR, 7: the DATE, 8: HOURS that were, "
                + "9: 1 in an ECLIPSE, else 0, 10: ACTS that can be undone, 11: redone, 12: LOOKS, 13: the TIME, 14: bytes on the TAPE, "
                + "15: units, 16: how many lie there.");
        ShadowDoors x = told("size 7 by 5;wall 0 0 1 0 2 0 3 0;door a at 0 1 high 1;door b at 0 2 high 1;lamp l at 0 1 lit 0 to 24;"
                + "person p at 0 1;person q at 0 1;person r at 0 1;shade (hour+1)*2;");
        hours(x, 53);
        x.eclipse();
        for (int i = 0; i < 5; i++) {
            x.undo();
        }
        x.eclipse();
        x.shut(0);
        x.shut(0);
        x.undo();
        for (int i = 0; i < 9; i++) {
            x.look(1, 8, true);
        }
        x.later(77);
        feed(x, "cloud 12345");
        x.soonest(7, 34);
        int[] about = {2, 1, 3, 4, 7, 5, 49 % 24, 49 / 24, 49, 1, 37, 1, 9, 77, 11, 4, 9};
        for (int what = 0; what < about.length; what++) {
            due(about[what], x.about(what), "about(" + what + ")");
        }
        x.eclipse();
        due(0, x.about(9), "no eclipse");
        due(0, x.about(11), "none can be redone");
    }

    static void lookAtAll() {
        newObjects();
        tapes();
        quarters();
        things();
        shadows();
        going();
        acts();
        ways();
        doorsAndRooms();
        fewest();
        oddsAndDates();
        looks();
        fits();
        boxes();
        abouts();
    }
}
