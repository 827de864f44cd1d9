import java.io.IOException;
import java.nio.file.Files;
import java.nio.file.Path;
import java.util.HashSet;
import java.util.Objects;
import java.util.Set;

/** Answers held against those that are due, each below the sentence of the document that it is for. */
final class Check {
    /** Something that is asked of an object. */
    interface Call {
        Object on(RainLoom x);
    }

    private final String document;
    private String sentence = "";
    private final Set<String> sentences = new HashSet<>();
    private int wrong = 0;

    Check() {
        String words = "";
        try {
            words = Files.readString(Path.of("../shared/DOC.md"));
        } catch (IOException e) {
            System.out.println("the document is not where it should be: " + e.getMessage());
        }
        document = words;
    }

    /**
     * What comes next is for these words. That the document has them no longer is told but is no failure: its words
     * may be set right without the class being at fault.
     */
    void says(String words) {
        sentence = words;
        if (sentences.add(words) && !document.contains(words)) {
            System.out.println("the document does not say: " + words);
        }
    }

    void due(String call, Object got, Object want) {
        if (!Objects.equals(got, want)) {
            wrong++;
            System.out.println("<" + sentence + ">: " + call + " answered " + got + ", due is " + want);
        }
    }

    void reads(String text, int fault, int place) {
        RainLoom x = new RainLoom();
        due("read of <" + text + ">", Texts.read(x, text), fault);
        due("place in <" + text + ">", x.place(), place);
    }

    void good(String text) {
        reads(text, 0, -1);
    }

    void end() {
        System.out.println(wrong == 0 ? sentences.size() + " sentences hold" : wrong + " answers are not as due");
        if (wrong != 0) {
            System.exit(1);
        }
    }
}
