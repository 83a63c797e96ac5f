import java.io.IOException;
import java.nio.file.Files;
import java.nio.file.Path;
import java.util.ArrayList;
import java.util.HashSet;
import java.util.List;
import java.util.Set;

/**
 * Each sentence of the document that names a boundary case, with a test of its own. A sentence has to
 * stand in the document in these words; MutantTest shows that its test fails if it is broken.
 */
public final class BoundaryTest {
    private BoundaryTest() { }

    static List<Sentences> parts() {
        return List.of(new BoundaryText(), new BoundaryRim(), new BoundaryBody(), new BoundaryFace());
    }

    static List<String> names() {
        List<String> names = new ArrayList<>();
        for (Sentences part : parts()) {
            for (Sentences.Sentence sentence : part.all) {
                names.add(sentence.name());
            }
        }
        return names;
    }

    public static void main(String[] args) throws IOException {
        String document = Files.readString(Path.of("../shared/DOC.md")).replaceAll("\\s+", " ");
        Set<String> names = new HashSet<>();
        int wrong = 0;
        for (Sentences part : parts()) {
            for (Sentences.Sentence sentence : part.all) {
                if (!names.add(sentence.name())) {
                    wrong++;
                    System.out.println("two sentences are named " + sentence.name());
                }
                if (!document.contains(sentence.words())) {
                    wrong++;
                    System.out.println(sentence.name() + ": these are not the document's words: " + sentence.words());
                }
                wrong += part.run(sentence) == 0 ? 0 : 1;
            }
        }
        System.out.println(names.size() + " sentences, " + wrong + " do not hold");
        if (wrong > 0) {
            System.exit(1);
        }
    }

    /** For MutantTest: how many wrong answers one sentence's test finds. */
    static int wrongIn(String name) {
        for (Sentences part : parts()) {
            for (Sentences.Sentence sentence : part.all) {
                if (sentence.name().equals(name)) {
                    return part.run(sentence);
                }
            }
        }
        return -1;
    }
}
