import java.io.IOException;
import java.nio.file.Files;
import java.nio.file.Path;

/** Counts and prints answers that are not as due. */
final class Check {
    private final String name;
    private String document = "";
    private String sentence = "";
    private int asked = 0;
    private int wrong = 0;

    Check(String name) {
        this.name = name;
    }

    /** Takes the document, where it lies beside the project, so that quotes of it are held against it. */
    void reads(String[] args) throws IOException {
        Path path = Path.of(args.length > 0 ? args[0] : ".", "../shared/DOC.md");
        document = Files.isReadable(path) ? Files.readString(path) : "";
    }

    /** The sentence of the document that the next answers are due by. */
    void says(String quote) {
        sentence = " (" + quote + ")";
        isTrue("the document says it", document.isEmpty() || document.contains(quote));
    }

    void due(String call, long got, long want) {
        asked++;
        if (got != want) {
            wrong++;
            System.out.println(name + ": " + call + " answered " + got + ", due is " + want + sentence);
        }
    }

    /** Two rows of answers, one by one. */
    void alike(String what, long[] got, long[] want) {
        due(what + ": how many answers", got.length, want.length);
        for (int i = 0; i < Math.min(got.length, want.length); i++) {
            due(what + ": answer " + i, got[i], want[i]);
        }
    }

    /** A refused call: what it answers, and that it changes nothing that is told. */
    void refused(WagonWays x, String call, java.util.function.LongSupplier run, long want) {
        long before = x.digest();
        due(call, run.getAsLong(), want);
        due(call + " changes nothing", x.digest(), before);
    }

    void isTrue(String what, boolean holds) {
        due(what, holds ? 1 : 0, 1);
    }

    void end() {
        System.out.println(name + ": " + asked + " answers, " + wrong + " wrong");
        if (wrong != 0) {
            System.exit(1);
        }
    }

    /** Writes a text on the page, eight letters a call: what the last call answered. */
    static int write(WagonWays x, String text) {
        int answer = text.isEmpty() ? x.count(9) : 0;
        for (int i = 0; i < text.length(); i += 8) {
            answer = x.letters(word(text.substring(i, Math.min(text.length(), i + 8))));
        }
        return answer;
    }

    static long word(String letters) {
        long w = 0;
        for (int i = 0; i < letters.length(); i++) {
            w |= (long) letters.charAt(i) << 8 * i;
        }
        return w;
    }

    /** Reads a text as a block on an empty page; if it is none, the page is emptied. */
    static int block(WagonWays x, String text) {
        x.blank();
        write(x, text);
        int number = x.block();
        x.blank();
        return number;
    }

    static WagonWays withBlocks(int yards, String... texts) {
        WagonWays x = new WagonWays();
        x.land(yards);
        for (String text : texts) {
            write(x, text);
            if (x.block() < 0) {
                throw new IllegalStateException(text);
            }
        }
        return x;
    }
}
