import java.nio.charset.StandardCharsets;
import java.util.ArrayList;
import java.util.Arrays;
import java.util.Collections;
import java.util.List;
import java.util.Random;

/** Texts of quarters by chance, sound ones and broken ones; and the numbers by which a text is fed. */
final class Texts {
    private static final String[] PIECES = {"size", "by", "wall", "door", "at", "high", "open", "to", "lamp", "lit", "person", "shade",
        "cloud", "or", "and", "not", "height", "hour", "date", ";", "(", ")", "<", ">", "=", "+", "-", "*", "/", "%", "0", "1", "7", "8", "9",
        "23", "24", "25", "100", "101", "9999", "10000", "abcdefgh", "abcdefghi", "a", "b", "1a", "A", "#", "\t", "\n", " "};

    private final Random random;

    Texts(Random random) {
        this.random = random;
    }

    static int[] numbersOf(String text) {
        byte[] bytes = Arrays.copyOf(text.getBytes(StandardCharsets.ISO_8859_1), (text.length() + 19) / 20 * 20);
        int[] numbers = new int[bytes.length / 4];
        java.nio.ByteBuffer.wrap(bytes).asIntBuffer().get(numbers);
        return numbers;
    }

    private int upTo(int most) {
        return random.nextInt(most + 1);
    }

    private String formula(int depth, int room) {
        int kind = upTo(depth > 4 || room < 2 ? 3 : 13);
        switch (kind) {
            case 0:
                return String.valueOf(upTo(upTo(3) == 0 ? 9999 : 12));
            case 1:
                return "height";
            case 2:
                return upTo(3) == 0 ? "date" : "hour";
            case 3:
                return "hour";
            case 4:
                return "not " + formula(depth + 1, room);
            case 5:
            case 6:
                return "(" + formula(depth + 1, room - 1) + ")";
            default:
                String[] signs = {"+", "-", "*", "/", "%", "<", ">", "=", " and ", " or "};
                String sign = signs[upTo(signs.length - 1)];
                String left = formula(depth + 1, room / 2);
                String right = formula(depth + 1, room / 2);
                // A not or a relation can't stand behind a sign: brackets make most of these sound.
                return wrapped(left, sign) + sign + wrapped(right, sign);
        }
    }

    private String wrapped(String part, String sign) {
        boolean plain = part.matches("[a-z0-9]+") || sign.startsWith(" ");
        return plain || upTo(40) == 0 ? part : "(" + part + ")";
    }

    private String shade(int wide) {
        switch (upTo(8)) {
            case 0:
                return "shade hour-" + upTo(23) + ";";
            case 1:
                return "shade (hour%" + (2 + upTo(6)) + "-" + (1 + upTo(4)) + ")*height;";
            case 2:
                return "shade (hour+date)%" + (2 + upTo(9)) + "-" + upTo(wide) + ";";
            case 3:
                return "shade (date%" + (1 + upTo(12)) + "=" + upTo(4) + ")*(hour>" + upTo(12) + ")*(height-" + upTo(5) + ");";
            case 4:
                return "shade (height-" + (1 + upTo(3)) + ")*" + (1 + upTo(3)) + ";";
            case 5:
                return "shade height*(hour-" + upTo(23) + ")/" + (1 + upTo(4)) + ";";
            case 6:
                return "shade (hour*height+date)%" + (3 + upTo(9)) + "-" + (1 + upTo(wide)) + ";";
            default:
                return "shade " + formula(0, 8 + upTo(20)) + ";";
        }
    }

    String quarter(int widest) {
        boolean striped = upTo(2) > 0;
        int wide = striped ? 3 + upTo(5) : 1 + Math.max(random.nextInt(widest), random.nextInt(widest));
        int deep = striped ? 1 + upTo(widest > 4 ? 5 : 1) : 1 + random.nextInt(widest);
        boolean sized = striped || widest < 6 || upTo(5) > 0;
        if (!sized) {
            wide = 6;
            deep = 6;
        }
        List<Integer> cells = new ArrayList<>();
        for (int i = 0; i < wide * deep; i++) {
            cells.add(i);
        }
        Collections.shuffle(cells, random);
        int walls = Math.min(upTo(24), upTo(cells.size()) * 2 / 3);
        if (striped) {
            // Rooms of one or two columns each: without shadows nobody leaves them.
            int across = wide;
            int period = 2 + upTo(1);
            cells.sort(java.util.Comparator.comparing(cell -> cell % across % period != period - 1));
            walls = Math.min(24, wide / period * deep);
            Collections.shuffle(cells.subList(walls, cells.size()), random);
        }
        List<Integer> rest = new ArrayList<>(cells.subList(walls, cells.size()));
        List<String> lines = new ArrayList<>();
        for (int i = 0; i < walls;) {
            StringBuilder line = new StringBuilder("wall");
            for (int many = 1 + upTo(5); many > 0 && i < walls; many--, i++) {
                line.append(' ').append(place(cells.get(i), wide));
            }
            lines.add(line.append(";").toString());
        }
        int doors = Math.min(1 + upTo(7), rest.size());
        for (int i = 0; i < doors; i++) {
            String open = upTo(2) == 0 ? hours(" open ") : "";
            lines.add("door d" + (char) ('a' + i) + " at " + place(rest.get(i), wide) + " high " + (1 + upTo(upTo(1) == 0 ? 2 : 8)) + open + ";");
        }
        for (int i = upTo(4); i > 0 && !rest.isEmpty(); i--) {
            lines.add("lamp l" + (char) ('a' + i) + " at " + place(rest.get(upTo(rest.size() - 1)), wide) + hours(" lit ") + ";");
        }
        for (int i = upTo(4); i > 0 && !rest.isEmpty(); i--) {
            lines.add("person p" + (char) ('a' + i) + " at " + place(rest.get(upTo(rest.size() - 1)), wide) + ";");
        }
        if (upTo(9) > 0) {
            lines.add(shade(wide));
        }
        if (upTo(2) > 0) {
            lines.add("cloud " + upTo(100) + ";");
        }
        Collections.shuffle(lines, random);
        if (sized) {
            lines.add(0, "size " + wide + " by " + deep + ";");
        }
        return String.join(upTo(1) == 0 ? "" : "\n", lines);
    }

    private static String place(int cell, int wide) {
        return cell % wide + " " + cell / wide;
    }

    private String hours(String word) {
        int from = upTo(23);
        return word + from + " to " + (from + 1 + upTo(23 - from));
    }

    /** A text with some piece of it gone, doubled, moved or put in. */
    String broken(String text) {
        StringBuilder builder = new StringBuilder(text);
        for (int many = 1 + upTo(1); many > 0; many--) {
            int at = upTo(builder.length());
            int to = Math.min(builder.length(), at + 1 + upTo(8));
            String piece = PIECES[upTo(PIECES.length - 1)];
            switch (upTo(5)) {
                case 0:
                    builder.delete(at, to);
                    break;
                case 1:
                    builder.insert(at, builder.substring(at, to));
                    break;
                case 2:
                    builder.setLength(at);
                    break;
                case 3:
                    builder.insert(at, " " + piece + " ");
                    break;
                case 4:
                    builder.replace(at, Math.min(builder.length(), at + 1), piece);
                    break;
                default:
                    builder.insert(at, line(builder.toString()));
                    break;
            }
        }
        return builder.length() > 1600 ? builder.substring(0, 1600) : builder.toString();
    }

    private String line(String text) {
        String[] lines = text.split("(?<=;)");
        return lines[upTo(lines.length - 1)];
    }
}
