import java.io.ByteArrayOutputStream;
import java.io.IOException;
import java.io.InputStream;
import java.io.OutputStream;
import java.io.PrintStream;
import java.lang.reflect.Method;
import java.net.URI;
import java.nio.file.Files;
import java.nio.file.Path;
import java.util.HashMap;
import java.util.HashSet;
import java.util.List;
import java.util.Map;
import java.util.Set;
import java.util.concurrent.ExecutionException;
import java.util.concurrent.FutureTask;
import java.util.concurrent.TimeUnit;
import java.util.concurrent.TimeoutException;
import javax.tools.FileObject;
import javax.tools.ForwardingJavaFileManager;
import javax.tools.JavaCompiler;
import javax.tools.JavaFileManager;
import javax.tools.JavaFileObject;
import javax.tools.SimpleJavaFileObject;
import javax.tools.StandardJavaFileManager;
import javax.tools.ToolProvider;

/**
 * Breaks each sentence of BoundaryTest in the class's own text, and runs that sentence's test alone on
 * what comes out: it has to fail. The changes stand in Mutants; a change of the class may need one there.
 */
public final class MutantTest {
    private static final int SECONDS = 20;

    private final JavaCompiler compiler = ToolProvider.getSystemJavaCompiler();
    private final StandardJavaFileManager files = compiler.getStandardFileManager(null, null, null);
    private final String source;

    private MutantTest(String source) {
        this.source = source;
    }

    public static void main(String[] args) throws Exception {
        if (ToolProvider.getSystemJavaCompiler() == null) {
            System.out.println("this machine's java has no compiler in it: nothing is changed");
            return;
        }
        MutantTest test = new MutantTest(Files.readString(Path.of("src/main/java/GluedPaper.java")));
        Set<String> unbroken = new HashSet<>(BoundaryTest.names());
        int wrong = 0;
        for (Mutants.Mutant mutant : Mutants.all()) {
            String told = test.fate(mutant);
            unbroken.remove(mutant.sentence());
            if (!told.isEmpty()) {
                wrong++;
                System.out.println(mutant.sentence() + ", " + mutant.instead().strip() + ": " + told);
            }
        }
        for (String sentence : unbroken) {
            wrong++;
            System.out.println("no change breaks: " + sentence);
        }
        System.out.println(Mutants.all().size() + " changes, " + wrong + " are not found out");
        System.exit(wrong > 0 ? 1 : 0);
    }

    /** Empty if the sentence's test fails on the changed class, as it has to. */
    private String fate(Mutants.Mutant mutant) throws Exception {
        int at = source.indexOf(mutant.text());
        if (at < 0 || source.indexOf(mutant.text(), at + 1) >= 0) {
            return "its text does not stand in the class just once";
        }
        String changed = source.substring(0, at) + mutant.instead() + source.substring(at + mutant.text().length());
        Map<String, byte[]> classes = compiled(changed);
        if (classes.isEmpty()) {
            return "it does not compile";
        }
        int wrong = wrongIn(new Changed(classes), mutant.sentence());
        return wrong > 0 ? "" : wrong < 0 ? "there is no such sentence" : "the test does not see it";
    }

    private static int wrongIn(Changed loader, String sentence) throws Exception {
        Method method = loader.loadClass("BoundaryTest").getDeclaredMethod("wrongIn", String.class);
        method.setAccessible(true);
        FutureTask<Object> task = new FutureTask<>(() -> method.invoke(null, sentence));
        PrintStream out = System.out;
        System.setOut(new PrintStream(OutputStream.nullOutputStream()));
        Thread thread = new Thread(task);
        thread.setDaemon(true);
        thread.start();
        try {
            return (Integer) task.get(SECONDS, TimeUnit.SECONDS);
        } catch (TimeoutException | ExecutionException late) {
            return 1;
        } finally {
            System.setOut(out);
        }
    }

    private Map<String, byte[]> compiled(String text) {
        Kept kept = new Kept(files);
        JavaFileObject file = new SimpleJavaFileObject(URI.create("string:///GluedPaper.java"), JavaFileObject.Kind.SOURCE) {
            @Override
            public CharSequence getCharContent(boolean ignore) {
                return text;
            }
        };
        List<String> options = List.of("--release", "17", "-proc:none");
        PrintStream told = new PrintStream(OutputStream.nullOutputStream());
        boolean good = compiler.getTask(new java.io.PrintWriter(told), kept, null, options, null, List.of(file)).call();
        return good ? kept.bytes() : Map.of();
    }

    /** Keeps what the compiler writes. */
    private static final class Kept extends ForwardingJavaFileManager<StandardJavaFileManager> {
        private final Map<String, ByteArrayOutputStream> written = new HashMap<>();

        Kept(StandardJavaFileManager files) {
            super(files);
        }

        @Override
        public JavaFileObject getJavaFileForOutput(JavaFileManager.Location location, String name,
                JavaFileObject.Kind kind, FileObject sibling) {
            ByteArrayOutputStream bytes = new ByteArrayOutputStream();
            written.put(name, bytes);
            return new SimpleJavaFileObject(URI.create("mem:///" + name + ".class"), kind) {
                @Override
                public OutputStream openOutputStream() {
                    return bytes;
                }
            };
        }

        Map<String, byte[]> bytes() {
            Map<String, byte[]> all = new HashMap<>();
            written.forEach((name, bytes) -> all.put(name, bytes.toByteArray()));
            return all;
        }
    }

    /** The changed class, and the project's own tests anew, so that these see it. */
    private static final class Changed extends ClassLoader {
        private final Map<String, byte[]> changed;

        Changed(Map<String, byte[]> changed) {
            super(ClassLoader.getSystemClassLoader());
            this.changed = changed;
        }

        @Override
        protected Class<?> loadClass(String name, boolean resolve) throws ClassNotFoundException {
            if (name.contains(".")) {
                return super.loadClass(name, resolve);
            }
            Class<?> known = findLoadedClass(name);
            if (known != null) {
                return known;
            }
            byte[] bytes = changed.containsKey(name) ? changed.get(name) : own(name);
            return defineClass(name, bytes, 0, bytes.length);
        }

        private byte[] own(String name) throws ClassNotFoundException {
            try (InputStream in = getParent().getResourceAsStream(name + ".class")) {
                if (in == null) {
                    throw new ClassNotFoundException(name);
                }
                return in.readAllBytes();
            } catch (IOException broken) {
                throw new ClassNotFoundException(name, broken);
            }
        }
    }
}
