/** The sentences of 'Terms' on the quarter's text: its lines, tokens, numbers, and faults. */
final class TextSentences extends Sentences {
    private static final String[] LINES = {"size 3 by 4 ;", "wall 1 2 3 4 ;", "door a at 1 2 high 3 ;", "door a at 1 2 high 3 open 4 to 5 ;",
        "lamp a at 1 2 lit 4 to 5 ;", "person a at 1 2 ;", "shade 1 ;", "cloud 1 ;"};
    private static final String WORDS = "size by wall door at high open to lamp lit person shade cloud or and not height hour date";
    private static final String DOOR = "door a at 1 1 high 1;";
    private static final String LAMP = "lamp a at 1 1 lit 0 to 24;";
    private static final String PERSON = "person a at 1 1;";

    private TextSentences() { }

    private static void lengths() {
        sentence("A QUARTER is a text of at most 1,600 bytes (empty at first): quarter = {line}.");
        ShadowDoors x = new ShadowDoors();
        due(0, x.about(14), "bytes at first");
        due(0, x.quarter(), "quarter() of no line");
        String line = "wall 5 5;";
        due(1, sound(" ".repeat(1600 - line.length()) + line).about(3), "a line at the end of 1,600 bytes");
        due(1, sound(line + "\n".repeat(1600 - line.length())).about(3), "a line at the start of 1,600 bytes");
        faultAt(1, 1599, " ".repeat(1599) + "?");
        faultAt(2, 1600, " ".repeat(1600 - line.length()) + " wall 5 5");
        feed(x, " ".repeat(1600));
        due(NONE, x.feed(0x20202020, 0x20202020, 0x20202020, 0x20202020, 0x20202020), "feed behind 1,600 bytes");
        due(3, sound("wall 1 1;wall 2 2;\nwall 3 3;").about(3), "three lines");
    }

    /** In each line each token is cut off, and is put in another one's place. */
    private static void lines() {
        sentence("line = size N by N ; | wall N N {N N} ; | door NAME at N N high N [open N to N] ; | lamp NAME at N N lit N to N ; | "
                + "person NAME at N N ; | shade e ; | cloud N ;.");
        for (String line : LINES) {
            sound(line);
            sound(line.replace(" ;", ";"));
            String[] tokens = line.split(" ");
            int place = 0;
            for (int i = 0; i < tokens.length; i++) {
                String before = line.substring(0, place);
                String behind = line.substring(place + tokens[i].length());
                if (i > 0) {
                    faultAt(2, place, before);
                }
                faultAt(2, place, before + ")" + behind);
                faultAt(2, place, before + (tokens[i].equals("to") ? "by" : "to") + behind);
                if (!tokens[i].equals("a")) {
                    faultAt(2, place, before + "x" + behind);
                }
                boolean numberCan = tokens[i].matches("[0-9]+") || line.startsWith("wall") && i > 0;
                if (!numberCan) {
                    faultAt(2, place, before + "1" + behind);
                }
                place += tokens[i].length() + 1;
            }
        }
        faultIs(2, "wall 1 2 3 |;");
        faultIs(2, "wall |;");
        faultIs(2, "|;");
        faultIs(2, "cloud 1;|;");
        faultIs(2, "cloud 1 |cloud");
        faultIs(2, "door a at 1 1 high 1 |lit 0 to 24;");
        faultIs(2, "lamp a at 1 1 |open 0 to 24;");
        faultIs(2, "lamp a at 1 1|;");
        faultIs(2, "person a at 1 1 |high 1;");
        due(24, sound("size 8 by 8;wall" + walls(0, 24) + ";").about(3), "a wall line with 24 cells");
    }

    private static void valueIs(int want, String formula) {
        ShadowDoors x = sound("door a at 0 0 high 3;shade " + formula + ";");
        due(want, x.shade(0, 5), formula);
    }

    private static void formulas() {
        sentence("e = both {or both}. both = one {and one}. one = not one | sum [(< | > | =) sum]. sum = term {(+ | -) term}. "
                + "term = unit {(* | / | %) unit}. unit = N | height | hour | date | ( e ).");
        valueIs(1, "0 or 0 or 2");
        valueIs(1, "2 and 3 and 4");
        valueIs(1, "1 or 1 and 0");
        valueIs(0, "(1 or 1) and 0");
        valueIs(1, "not 0 or 1");
        valueIs(1, "not 1 and 0 or 1");
        valueIs(0, "not 0+1");
        valueIs(0, "not 1=1");
        valueIs(1, "not 1+1=1");
        valueIs(1, "1+1=2");
        valueIs(1, "2>1*1");
        valueIs(0, "2*1<1+1");
        valueIs(7, "9-3+1");
        valueIs(5, "9-3-1");
        valueIs(7, "1+2*3");
        valueIs(6, "8/4*3");
        valueIs(2, "8%6%4");
        valueIs(24, "2*12%30");
        valueIs(3, "height");
        valueIs(5, "hour");
        valueIs(0, "date");
        valueIs(9, "(1+2)*3");
        valueIs(4, "(((4)))");
        for (String wrong : new String[] {"|", "|+1", "|-1", "|*1", "|<1", "|=1", "|or 1", "|and 1", "not|", "not |and 1", "not |or 1", "1<|and 1", "1=|or 1", "1 |not 1", "1+|not 1", "1<|not 1", "1<2|<3",
            "1=1|=1", "1<|", "1+|", "1+|+1", "1+|-1", "1*|*1", "1*|", "1/|%1", "1 or|", "1 or |or 1", "1 and|", "1 and |or 1", "1 |1", "1 |(1)", "(1) |1",
            "hour |hour", "(|", "(|)", "(1|", "(1+1|", "1|)", "((1)|", "(1)|)", "(1 |1)", "|a", "|high", "|at", "1+|a"}) {
            faultIs(2, "shade " + wrong);
        }
        faultIs(2, "shade |;");
        faultIs(2, "shade (1|;)");
    }

    private static void words() {
        sentence("TOKENS: words (a .. z, 8 at most),");
        due(1, sound("door a at 1 1 high 1;").about(0), "a name of one letter");
        sound("door azbycxdw at 1 1 high 1;");
        faultIs(1, "door |azbycxdwe at 1 1 high 1;");
        faultIs(1, "|abcdefghi");
        faultIs(2, "|abcdefgh");
        faultIs(1, "|sizesizes 3 by 3;");
        faultIs(1, "|Size 3 by 3;");
        faultIs(1, "size 3 |By 3;");
        faultIs(1, "door a|A at 1 1 high 1;");
        faultIs(1, "door |` at 1 1 high 1;");
        faultIs(1, "door a|{ at 1 1 high 1;");
        faultIs(1, "door a|_b at 1 1 high 1;");
        sound("door abcdefgh at 1 1 high 1;door abcdefgi at 2 1 high 1;door bbcdefgh at 3 1 high 1;door bcdefgh at 4 1 high 1;");
        sound("door z at 1 1 high 1;door zz at 2 1 high 1;door zzzzzzzz at 3 1 high 1;door za at 4 1 high 1;");
        sentence("N (1 to 4 digits),");
        due(1, sound("door a at 1 1 high 1;shade 1;").shade(0, 0), "1 digit");
        due(9999, sound("door a at 1 1 high 1;shade 9999;").shade(0, 0), "4 digits");
        due(17, sound("door a at 1 1 high 1;shade 0017;").shade(0, 0), "4 digits, the first ones 0");
        due(7, sound("door a at 0001 0001 high 0001;").door(0, 0), "a cell in 4 digits");
        faultIs(1, "shade |10000;");
        faultIs(1, "shade |00001;");
        faultIs(1, "cloud |99999;");
        faultIs(1, "wall 1 |00001;");
        faultIs(1, "shade 1+|99999999999999999999;");
    }

    private static boolean isLetter(int sign) {
        return sign >= 'a' && sign <= 'z';
    }

    private static boolean isDigit(int sign) {
        return sign >= '0' && sign <= '9';
    }

    private static void signs() {
        sentence("signs ; ( ) < > = + - * / %;");
        for (int sign = 0; sign < 256; sign++) {
            if (sign != ' ' && sign != '\n') {
                boolean token = isLetter(sign) || isDigit(sign) || ";()<>=+-*/%".indexOf(sign) >= 0;
                faultAt(token ? 2 : 1, 0, "" + (char) sign);
                faultAt(token ? 2 : 1, 9, "wall 1 1;" + (char) sign);
            }
            if ("<>=+-*/%".indexOf(sign) >= 0) {
                sound("shade 1" + (char) sign + "1;");
            } else if (sign == ';') {
                faultIs(2, "shade 1;|1;");
            } else if (!isLetter(sign) && !isDigit(sign) && sign != ' ' && sign != '\n') {
                faultAt(sign == '(' || sign == ')' ? 2 : 1, 7, "shade 1" + (char) sign + "1;");
            }
        }
        sound("shade (1);");
        faultIs(2, "shade 1<|=2;");
        faultIs(2, "shade 1>|=2;");
    }

    private static void blanks() {
        sentence("blanks (32, 10) part them or not;");
        ShadowDoors x = sound("size3 by2;wall1 1;door a at0 0 high1;");
        due(3, x.about(4), "no blank behind a word");
        due(0, sound(" \n \n").about(0), "nothing but blanks");
        due(4, sound("\n\nsize\n4\nby\n\n1\n;\n").about(4), "line feeds");
        due(4, sound("  size  4  by  1  ;  ").about(4), "spaces");
        due(6, sound("door a at 1 1 high 1;shade(1+2)*2;").shade(0, 0), "none between signs");
        due(6, sound("door a at 1 1 high 1;shade ( 1 + 2 ) * 2 ;").shade(0, 0), "some between signs");
        faultIs(2, "|wa ll 1 1;");
        faultIs(2, "cloud 1 |0;");
        for (int sign : new int[] {0, 1, 9, 11, 12, 13, 31, 127, 128, 133, 160, 255}) {
            faultAt(1, 5, "cloud" + (char) sign + "1;");
        }
        sentence("each is as long as can be;");
        faultIs(2, "|sizes 3 by 3;");
        faultIs(2, "|doora at 1 1 high 1;");
        faultIs(2, "door aat |1 1 high 1;");
        faultIs(4, "size 8 by 8;wall |12;");
        faultIs(2, "shade |hourhour;");
        faultIs(2, "shade |nothour;");
        faultIs(2, "shade 1 |oror 1;");
        due(1, sound("size 8 by 8;wall 2 1;").about(3), "two numbers");
        due(0, sound("door a at 1 1 high 1;shade not1;").shade(0, 0), "a word and a number");
        due(12, sound("door a at 1 1 high 1;shade 12;").shade(0, 0), "one number");
        sentence("no letter directly behind an N.");
        faultIs(1, "size |3by 3;");
        faultIs(1, "cloud |1a;");
        faultIs(1, "cloud |1a");
        faultIs(1, "shade |2hour;");
        faultIs(1, "shade hour*|2or 1;");
        faultIs(1, "door a at 1 |1high 1;");
        faultIs(1, "wall 1 1 |1234z");
        sound("shade(2)or(1);");
        sound("shade 2 or 1;");
        sound("shade 2\nor 1;");
        faultIs(1, "shade 2|A;");
        faultIs(2, "cloud 1|");
    }

    private static void names() {
        sentence("Words that stand for themselves here are no NAMES.");
        for (String word : WORDS.split(" ")) {
            faultIs(2, "door |" + word + " at 1 1 high 1;");
            faultIs(2, "lamp |" + word + " at 1 1 lit 0 to 24;");
            faultIs(2, "person |" + word + " at 1 1;");
        }
        for (String word : "e both one sum term unit line quarter name n sizes siz walls do hours heigh dat ors an no ti b o".split(" ")) {
            sound("door " + word + " at 1 1 high 1;lamp " + word + " at 1 1 lit 0 to 24;person " + word + " at 1 1;");
        }
    }

    private static void sizes() {
        sentence("size (WIDTH, DEPTH, 1 .. 8 both;");
        for (int n = 1; n <= 8; n++) {
            ShadowDoors x = sound("size " + n + " by " + (9 - n) + ";");
            due(n, x.about(4), "WIDTH");
            due(9 - n, x.about(5), "DEPTH");
        }
        faultIs(4, "size |0 by 1;");
        faultIs(4, "size |9 by 1;");
        faultIs(4, "size |9999 by 1;");
        faultIs(4, "size 1 by |0;");
        faultIs(4, "size 1 by |9;");
        faultIs(4, "size 8 by |9999;");
        due(bits(0), sound("size 1 by 1;").reach(0, 48), "one cell");
        due(-1L, sound("size 8 by 8;").reach(0, 14), "64 cells");
        sentence("6 by 6 if it is not told)");
        due(6, sound("wall 5 5;").about(4), "WIDTH");
        due(6, sound("wall 5 5;").about(5), "DEPTH");
        faultIs(4, "wall |6 5;");
        faultIs(4, "wall 5 |6;");
        ShadowDoors x = told("size 2 by 3;");
        due(0, tell(x, ""), "quarter() without size behind another one");
        due(6, x.about(4), "WIDTH, not as it was");
        due(6, x.about(5), "DEPTH, not as it was");
        sentence("once, ahead of all others.");
        faultIs(2, "size 6 by 6;|size 6 by 6;");
        faultIs(2, "size 6 by 6;cloud 1;|size 6 by 6;");
        faultIs(2, "size 6 by 6;|size");
        for (String line : LINES) {
            if (!line.startsWith("size")) {
                faultIs(2, line + "|size 6 by 6;");
                sound("size 6 by 6;" + line);
            }
        }
    }

    private static void cells() {
        sentence("A CELL is told as its column, its row (0 .. one less than WIDTH, DEPTH); its number: row * WIDTH + column.");
        String[] kinds = {"wall %s;", "door a at %s high 1;", "lamp a at %s lit 0 to 24;", "person a at %s;"};
        for (String kind : kinds) {
            sound("size 3 by 5;" + kind.formatted("0 0"));
            sound("size 3 by 5;" + kind.formatted("2 4"));
            faultIs(4, "size 3 by 5;" + kind.formatted("|3 4"));
            faultIs(4, "size 3 by 5;" + kind.formatted("2 |5"));
            faultIs(4, "size 3 by 5;" + kind.formatted("|4 2"));
            faultIs(4, "size 1 by 1;" + kind.formatted("|1 0"));
            faultIs(4, "size 1 by 1;" + kind.formatted("0 |1"));
            sound("size 1 by 1;" + kind.formatted("0 0"));
            sound("size 8 by 8;" + kind.formatted("7 7"));
        }
        faultIs(4, "wall 5 5 |6 0;");
        ShadowDoors x = told("size 3 by 5;door a at 2 4 high 1;lamp a at 1 3 lit 0 to 24;person a at 0 2;wall 2 1;");
        due(14, x.door(0, 0), "a door's cell");
        due(10, x.lamp(0, 0), "a lamp's cell");
        due(6, x.person(0, 0), "a person's cell");
        due(bits(5), 0x7fff & ~x.reach(0, 48), "a wall's cell");
    }

    private static String walls(int from, int to) {
        StringBuilder text = new StringBuilder();
        for (int i = from; i < to; i++) {
            text.append(' ').append(i % 8).append(' ').append(i / 8);
        }
        return text.toString();
    }

    private static String many(String line, int many) {
        StringBuilder text = new StringBuilder("size 8 by 8;");
        for (int i = 0; i < many; i++) {
            text.append(line.replace("NAME", "n" + (char) ('a' + i)).replace("ROW", "" + i % 8));
        }
        return text.toString();
    }

    private static void counts() {
        sentence("At most 24 WALLS,");
        due(24, sound("size 8 by 8;wall" + walls(0, 24) + ";").about(3), "24 walls in one line");
        due(24, sound("size 8 by 8;wall" + walls(0, 23) + ";cloud 1;wall 7 7;").about(3), "24 walls in two lines");
        faultIs(2, "size 8 by 8;wall" + walls(0, 24) + " |7 7;");
        faultIs(2, "size 8 by 8;wall" + walls(0, 24) + ";wall |7 7;");
        sentence("8 DOORS");
        String door = "door NAME at 3 ROW high 1;";
        due(8, sound(many(door, 8)).about(0), "8 doors");
        due(8, tell(new ShadowDoors(), many(door, 8)), "quarter() with 8 doors");
        faultIs(2, many(door, 8) + "|door x at 0 0 high 1;");
        sentence("4 LAMPS");
        String lamp = "lamp NAME at 3 ROW lit 0 to 24;";
        due(4, sound(many(lamp, 4)).about(1), "4 lamps");
        faultIs(2, many(lamp, 4) + "|lamp x at 0 0 lit 0 to 24;");
        sentence("4 PEOPLE,");
        String person = "person NAME at 3 ROW;";
        due(4, sound(many(person, 4)).about(2), "4 people");
        faultIs(2, many(person, 4) + "|person x at 0 0;");
        ShadowDoors full = sound(many(door, 8) + many(lamp, 4).substring(12) + many(person, 4).substring(12) + "shade 1;cloud 1;wall" + walls(40, 41) + ";");
        due(8 + 4 + 4 + 1, full.about(0) + full.about(1) + full.about(2) + full.about(3), "all sorts full at once");
        sentence("numbered as told, each sort by itself;");
        ShadowDoors x = sound("person z at 5 0;lamp z at 4 0 lit 0 to 24;door z at 3 0 high 1;door a at 2 0 high 2;lamp a at 1 0 lit 0 to 24;person a at 0 0;");
        due(3, x.door(0, 0), "door 0");
        due(2, x.door(1, 0), "door 1");
        due(4, x.lamp(0, 0), "lamp 0");
        due(1, x.lamp(1, 0), "lamp 1");
        due(5, x.person(0, 0), "person 0");
        due(0, x.person(1, 0), "person 1");
    }

    private static void numbers() {
        sentence("(1 .. 9 high;");
        due(1, sound("door a at 1 1 high 1;").door(0, 1), "1 high");
        due(9, sound("door a at 1 1 high 9;").door(0, 1), "9 high");
        faultIs(4, "door a at 1 1 high |0;");
        faultIs(4, "door a at 1 1 high |10;");
        sentence("open from an HOUR 0 .. 23 to a later one, 24 at most;");
        hoursAre("door a at 1 1 high 1 open ");
        openIn(sound("door a at 1 1 high 1 open 0 to 1;"), 0, 1);
        openIn(sound("door a at 1 1 high 1 open 23 to 24;"), 23, 24);
        openIn(sound("door a at 1 1 high 1 open 5 to 6;"), 5, 6);
        sentence("all HOURS if it is not told),");
        openIn(sound("door a at 1 1 high 1;"), 0, 24);
        ShadowDoors behind = sound("lamp l at 0 0 lit 7 to 9;door b at 2 2 high 1 open 3 to 5;door a at 1 1 high 1;");
        for (int hour = 0; hour < 24; hour++, behind.hour()) {
            due(1, behind.door(1, 2), "behind one that is told, open in " + hour);
        }
        sentence("(lit likewise),");
        hoursAre("lamp a at 1 1 lit ");
        litIn(sound("lamp a at 1 1 lit 0 to 1;"), 0, 1);
        litIn(sound("lamp a at 1 1 lit 23 to 24;"), 23, 24);
        litIn(sound("lamp a at 1 1 lit 0 to 24;"), 0, 24);
        sentence("shade, cloud (0 .. 100; 0) once each;");
        sound("cloud 0;");
        sound("cloud 100;");
        sound("cloud 1;shade 1;");
        faultIs(4, "cloud |101;");
        faultIs(4, "cloud |9999;");
        faultIs(2, "cloud 1;|cloud 1;");
        faultIs(2, "cloud 0;|cloud 0;");
        faultIs(2, "shade 1;|shade 1;");
        faultIs(2, "shade 0;cloud 1;|shade 1;");
        String islands = "size 3 by 1;wall 1 0;door a at 0 0 high 1;shade 2;";
        due(1, sound(islands).surest(0, 2, 1, 1), "cloud that is not told is 0");
        due(0, sound(islands + "cloud 100;").surest(0, 2, 1, 0), "cloud 100");
        due(1, sound(islands + "cloud 0;").surest(0, 2, 1, 0), "cloud 0");
    }

    private static void hoursAre(String start) {
        sound(start + "0 to 24;");
        sound(start + "22 to 23;");
        faultIs(4, start + "|24 to 24;");
        faultIs(4, start + "|25 to 26;");
        faultIs(4, start + "7 to |7;");
        faultIs(4, start + "7 to |6;");
        faultIs(4, start + "0 to |0;");
        faultIs(4, start + "0 to |25;");
        faultIs(4, start + "23 to |25;");
        faultIs(4, start + "23 to |1;");
    }

    private static void openIn(ShadowDoors x, int from, int to) {
        for (int hour = 0; hour < 24; hour++, x.hour()) {
            due(hour >= from && hour < to ? 1 : 0, x.door(0, 2), "open in " + hour);
        }
    }

    private static void litIn(ShadowDoors x, int from, int to) {
        for (int hour = 0; hour < 24; hour++, x.hour()) {
            due(hour >= from && hour < to ? 1 : 0, x.lamp(0, 1), "lit in " + hour);
        }
    }

    private static void units() {
        sentence("60 units in all, 30 in one e");
        String ones = "shade 1" + "+1".repeat(29);
        due(30, sound(ones + ";").about(15), "30 units");
        due(30, sound("door a at 0 0 high 1;" + ones + ";").shade(0, 0), "30 units, all of them");
        faultIs(2, ones + "+|1;");
        faultIs(2, ones + "+|hour;");
        faultIs(2, ones + "+|(1);");
        faultIs(2, ones + " or |1;");
        faultIs(2, ones + " and not |1;");
        faultIs(2, ones + "=|1;");
        String bracketed = "shade (1)" + "+(1)".repeat(14);
        due(30, sound(bracketed + ";").about(15), "brackets are units too");
        faultIs(2, bracketed + "+|1;");
        faultIs(2, "shade (1" + "+1".repeat(28) + "+|1);");
        faultIs(2, "shade 1+" + "1+".repeat(28) + "(|1);");
        due(30, sound("shade " + "not 1 or ".repeat(29) + "not 1;").about(15), "a not is no unit");
        String nots = "not not not not not not not ";
        due(1, sound("door a at 0 0 high 1;shade " + (nots + "1 or ").repeat(29) + nots + "0;").shade(0, 0), "as much as can be, the last one counts");
        due(0, sound("door a at 0 0 high 1;shade " + (nots + "1 or ").repeat(29) + nots + "1;").shade(0, 0), "as much as can be");
        sentence("(a unit ( e ), or a one behind not, within 6 others at most).");
        due(4, sound("door a at 0 0 high 1;shade (((((((4)))))));").shade(0, 0), "seven brackets");
        faultIs(2, "shade (((((((|(4))))))));");
        due(0, sound("door a at 0 0 high 1;shade not not not not not not not 4;").shade(0, 0), "seven nots");
        faultIs(2, "shade not not not not not not not |not 4;");
        sound("shade not(not(not(not 1)));");
        faultIs(2, "shade not(not(not(not|(1))));");
        faultIs(2, "shade (not(not(not(|not 1))));");
        sound("shade (((((((1)))))))+(((((((1)))))));");
        faultIs(2, "shade (((((((1)))))))+(((((((|(1))))))));");
        sound("shade not not not not not not not 1 or not not not not not not not 1;");
        sound("shade ((((((not 1))))));");
        faultIs(2, "shade (((((((|not 1)))))));");
        sound("shade (((((((1+2*3<hour)))))));");
    }

    private static void places() {
        sentence("FAULTS, the first by its place");
        faultIs(4, "cloud |101;?");
        faultIs(4, "size |9 by 9;$");
        faultIs(3, "wall 1 1;wall 1 |1 9 9;");
        faultIs(2, "|;?");
        faultIs(2, "cloud 1 |) 12345;");
        faultIs(3, DOOR + "door |a at 9 9 high 0;");
        sentence("(bytes from 0; the end: the text's length),");
        faultIs(1, "|?");
        faultIs(2, "|a");
        faultIs(2, "size|");
        faultIs(2, "size 3 by 3|");
        faultIs(2, "size 3 by 3 \n |");
        faultIs(2, "  \n|a");
        faultIs(1, "\n\n\n|?");
        faultIs(4, "\ncloud   |0101;");
        sentence("at one place the least:");
        String full = "size 8 by 8;wall" + walls(0, 24);
        faultIs(2, full + " |8 0;");
        faultIs(2, full + " |9999 0;");
        faultIs(1, full + " |99999 0;");
        faultIs(1, full + ";wall |9a 0;");
        faultIs(1, "cloud |10000;");
        faultIs(1, "door |1a at 1 1 high 1;");
        faultIs(1, "shade 1" + "+1".repeat(29) + "+|?;");
        faultIs(1, "shade (((((((|?");
        sentence("1 no TOKEN;");
        faultIs(1, "cloud 1;|#");
        faultIs(1, "cloud |#");
        faultIs(1, "cloud 1|#");
        faultIs(1, "door |aaaaaaaaa at");
        faultIs(1, "wall |00000 0;");
        faultIs(1, "wall |0a 0;");
    }

    private static void misplaced() {
        sentence("2 one that can't stand there (one of a sort too many, a second time, size behind another line: at the line's first word;");
        faultIs(2, many("door NAME at 3 ROW high 1;", 8) + "|door na at 3 0 high 0;");
        faultIs(2, many("lamp NAME at 3 ROW lit 0 to 24;", 4) + "|lamp na at 9 9 lit 9 to 9;");
        faultIs(2, many("person NAME at 3 ROW;", 4) + "|person na at 9 9;");
        faultIs(2, "shade 1;|shade ?;");
        faultIs(2, "cloud 1;|cloud 999;");
        faultIs(2, "cloud 1;|size 9 by 9;");
        faultIs(2, "size 1 by 1;|size 9 by 9;");
        sentence("a 25th WALL: at its column;");
        String full = "size 8 by 8;wall" + walls(0, 24);
        faultIs(2, full + " |0 0;");
        faultIs(2, full + ";wall |0 0;");
        faultIs(2, full + ";cloud 1;wall |0 9;");
        faultIs(2, full + ";wall |;");
        faultIs(2, full + ";wall |cloud 1;");
        faultIs(2, full + ";wall |wall 7 7;");
        sentence("a unit too many, what is within 7 others: at its first TOKEN, or the not);");
        String ones = "shade 1" + "+1".repeat(29);
        faultIs(2, ones + "*|(1);");
        faultIs(2, ones + "*|date;");
        faultIs(2, ones + " or not |(1);");
        faultIs(2, ones + "*|*1;");
        faultIs(2, ones + "+|-1;");
        faultIs(2, ones + "+|and 1;");
        faultIs(2, ones + " or |or 1;");
        for (String deed : new String[] {" or ", " and ", "-", "*", "/", "%"}) {
            faultIs(2, "shade 1" + (deed + "1").repeat(29) + deed + "|1;");
            sound("shade 1" + (deed + "1").repeat(29) + ";");
        }
        faultIs(2, "shade (((((((1+|(1))))))));");
        faultIs(2, "shade (((((((1 or |not 1)))))));");
        faultIs(2, "shade not not not not not not not |(1);");
        faultIs(2, "shade (((((((|(");
        faultIs(2, "shade (((((((|not");
    }

    private static void takenAlready() {
        sentence("3 a NAME told already (of its sort),");
        faultIs(3, DOOR + "door |a at 2 2 high 1;");
        faultIs(3, LAMP + "lamp |a at 2 2 lit 0 to 24;");
        faultIs(3, PERSON + "person |a at 2 2;");
        faultIs(3, "door a at 0 0 high 1;door b at 1 1 high 1;lamp b at 1 1 lit 0 to 24;door |b");
        sound(DOOR + LAMP + PERSON);
        sound(PERSON + LAMP + DOOR);
        sentence("a CELL that is a WALL's already,");
        faultIs(3, "wall 1 1 1 |1;");
        faultIs(3, "wall 1 1;wall 1 |1;");
        faultIs(3, "wall 1 1;" + "door a at 1 |1 high 1;");
        faultIs(3, "wall 1 1;" + "lamp a at 1 |1 lit 0 to 24;");
        faultIs(3, "wall 1 1;" + "person a at 1 |1;");
        faultIs(3, "size 8 by 8;wall 0 0 7 7 0 |0;");
        faultIs(3, "size 8 by 8;wall 0 0 7 7 7 |7;");
        faultIs(2, "wall 1 0 1 |;");
        faultIs(2, "wall 1 0;person a at 1 |;");
        faultIs(4, "size 8 by 8;wall 0 0 0 |8;");
        faultIs(4, "size 8 by 8;wall 0 0 0 |64;");
        sound("wall 1 2 2 1;" + DOOR + LAMP + PERSON);
        sentence("of a WALL one where anything stands,");
        faultIs(3, DOOR + "wall 1 |1;");
        faultIs(3, LAMP + "wall 1 |1;");
        faultIs(3, PERSON + "wall 1 |1;");
        faultIs(3, "person b at 0 0;" + PERSON + "wall 2 2 1 |1;");
        sound(DOOR + LAMP + PERSON + "wall 1 2 2 1 0 1 1 0;");
        sentence("of a DOOR a DOOR's (each at its row);");
        faultIs(3, DOOR + "door b at 1 |1 high 1;");
        faultIs(3, "size 8 by 8;door a at 7 7 high 1;door b at 7 |7 high 1;");
        sound(DOOR + "door b at 1 2 high 1;door c at 2 1 high 1;");
        sound(LAMP + PERSON + DOOR);
        sound(LAMP + "lamp b at 1 1 lit 0 to 24;");
        sound(PERSON + "person b at 1 1;");
        sound(DOOR + "person b at 1 1;lamp b at 1 1 lit 0 to 24;");
        sentence("4 a number that can't be.");
        faultIs(4, "size |0");
        faultIs(4, "size 1 by |9");
        faultIs(4, "wall |6");
        faultIs(4, "wall 0 |6");
        faultIs(4, "door a at 1 1 high |0");
        faultIs(4, "door a at 1 1 high 1 open |24");
        faultIs(4, "door a at 1 1 high 1 open 1 to |1");
        faultIs(4, "lamp a at 1 1 lit |24");
        faultIs(4, "lamp a at 1 1 lit 1 to |25");
        faultIs(4, "cloud |101");
        sound("shade 9999+0*0000;");
    }

    static void lookAtAll() {
        lengths();
        lines();
        formulas();
        words();
        signs();
        blanks();
        names();
        sizes();
        cells();
        counts();
        numbers();
        units();
        places();
        misplaced();
        takenAlready();
    }
}
