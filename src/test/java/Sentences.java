import java.io.IOException;
import java.nio.charset.StandardCharsets;
import java.nio.file.Files;
import java.nio.file.Path;
import java.util.ArrayList;
import java.util.List;
import java.util.function.IntToLongFunction;

/** Says which sentence of the document is looked at, tells each answer that is not the one due, and sees to it that no sentence is left out. */
abstract class Sentences {
    static final int NONE = -1;
    static final int LEAST = Integer.MIN_VALUE;
    static final int MOST = Integer.MAX_VALUE;
    static final String STREET = "size 5 by 2;wall 2 1;door d at 1 0 high 2;door e at 4 1 high 1 open 8 to 20;lamp l at 0 0 lit 18 to 24;"
            + "person p at 0 1;person q at 3 1;shade (hour>5 and hour<18)*(hour-12)*height/2;cloud 50;";

    private static final List<String> SAID = new ArrayList<>();
    private static int asked;
    private static int askedBefore;
    private static int wrong;

    /** From here on this sentence, in the document's own words, is looked at. */
    static void sentence(String words) {
        endSentence();
        SAID.add(words);
    }

    private static void endSentence() {
        if (!SAID.isEmpty() && asked == askedBefore) {
            fail("nothing was asked");
        }
        askedBefore = asked;
    }

    static void fail(String what) {
        wrong++;
        System.out.println("\"" + SAID.get(SAID.size() - 1) + "\": " + what);
    }

    static void due(long want, long got, String call) {
        asked++;
        if (got != want) {
            fail(call + " answered " + got + ", due is " + want);
        }
    }

    static void due(boolean want, boolean got, String call) {
        due(want ? 1 : 0, got ? 1 : 0, call);
    }

    static void dueOfEach(long want, String call, IntToLongFunction asking, int... numbers) {
        for (int number : numbers) {
            due(want, asking.applyAsLong(number), call + " of " + number);
        }
    }

    static void feed(ShadowDoors x, String text) {
        int[] n = Texts.numbersOf(text);
        int before = x.about(14);
        for (int i = 0; i + 4 < n.length; i += 5) {
            x.feed(n[i], n[i + 1], n[i + 2], n[i + 3], n[i + 4]);
        }
        x.end(before + text.length());
    }

    static int tell(ShadowDoors x, String text) {
        feed(x, text);
        return x.quarter();
    }

    static ShadowDoors told(String text) {
        ShadowDoors x = new ShadowDoors();
        if (tell(x, text) < 0) {
            fail("fault " + x.fault(0) + " at " + x.fault(1) + " of '" + text + "'");
        }
        return x;
    }

    static ShadowDoors sound(String text) {
        ShadowDoors x = new ShadowDoors();
        tell(x, text);
        due(0, x.fault(0), "fault(0) of '" + text + "'");
        due(NONE, x.fault(1), "fault(1) of '" + text + "'");
        return x;
    }

    static void faultAt(int which, int place, String text) {
        ShadowDoors x = new ShadowDoors();
        due(NONE, tell(x, text), "quarter() of '" + text + "'");
        due(which, x.fault(0), "fault(0) of '" + text + "'");
        due(place, x.fault(1), "fault(1) of '" + text + "'");
    }

    /** The place is told by a bar, which is no part of the text. */
    static void faultIs(int which, String marked) {
        faultAt(which, marked.indexOf('|'), marked.replace("|", ""));
    }

    static void hours(ShadowDoors x, int many) {
        for (int i = 0; i < many; i++) {
            x.hour();
        }
    }

    static long bits(int... numbers) {
        long bits = 0;
        for (int number : numbers) {
            bits |= 1L << number;
        }
        return bits;
    }

    /** What lies there, number by number. */
    static void dueWay(ShadowDoors x, int... cells) {
        due(cells.length, x.about(16), "how many lie there");
        for (int i = 0; i < cells.length; i++) {
            due(cells[i], x.lies(i), "lies(" + i + ")");
        }
        due(NONE, x.lies(cells.length), "lies(" + cells.length + ")");
    }

    /** All that can be asked of what acts, looks and tapes change. */
    static String stateOf(ShadowDoors x) {
        StringBuilder state = new StringBuilder();
        for (int what = 0; what < 17; what++) {
            state.append(x.about(what)).append(' ');
        }
        for (int i = 0; i < 8; i++) {
            state.append(x.door(i, 3)).append(x.lamp(i, 2)).append(x.person(i, 0)).append(x.person(i, 1)).append(x.lies(i)).append(' ');
        }
        return state.append(x.fit(MOST)).append(' ').append(x.fault(0)).append(x.fault(1)).toString();
    }

    static void dueSame(String want, ShadowDoors x, String call) {
        due(true, want.equals(stateOf(x)), call + ": all is as it was");
    }

    /** Each sentence that was looked at stands in the document, and each word of its terms and promises in such a sentence. */
    static void lookAtDocument() throws IOException {
        String told = System.getenv("SHADOW_DOORS_DOC");
        Path path = Path.of(told == null ? "../shared/DOC.md" : told);
        if (!Files.isReadable(path)) {
            System.out.println("there is no " + path + ": what it says is not looked at");
            return;
        }
        String document = Files.readString(path, StandardCharsets.UTF_8);
        int from = document.indexOf("## Terms");
        int to = document.indexOf("## Not promised");
        String terms = document.substring(from, to).replace("&lt;", "<").replace("&gt;", ">");
        String plain = terms.replaceAll("(?m)^#.*$", " ").replaceAll("```(text)?", " ").replaceAll("(?m)^`[^`]*`:", " ").replaceAll("==== \\d\\.", " ");
        String text = plain.replaceAll("\\s+", " ");
        StringBuilder rest = new StringBuilder(text);
        for (String words : SAID) {
            int at = text.indexOf(words);
            if (at < 0) {
                wrong++;
                System.out.println("the document does not say: " + words);
            }
            for (; at >= 0; at = text.indexOf(words, at + 1)) {
                rest.replace(at, at + words.length(), "_".repeat(words.length()));
            }
        }
        for (String left : rest.toString().split("_+")) {
            if (left.matches(".*\\w.*")) {
                wrong++;
                System.out.println("not looked at: " + left);
            }
        }
    }

    static void close() {
        endSentence();
        System.out.println(SAID.size() + " sentences, " + asked + " answers, " + wrong + " not as due");
        if (wrong != 0) {
            System.exit(1);
        }
    }
}
