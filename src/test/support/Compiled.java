import java.io.File;
import java.io.IOException;
import java.net.URL;
import java.net.URLClassLoader;
import java.nio.file.Files;
import java.nio.file.Path;
import javax.tools.ToolProvider;

/** Classes that a test writes itself. */
final class Compiled {
    private Compiled() {
    }

    /** Compiles the text of a class in the folder; classes it lacks come from the loader given. */
    static Class<?> from(String text, String name, Path folder, ClassLoader others)
            throws IOException, ClassNotFoundException {
        Files.createDirectories(folder);
        Path file = folder.resolve(name + ".java");
        Files.writeString(file, text);
        String classes = folder + File.pathSeparator + System.getProperty("java.class.path");
        int code = ToolProvider.getSystemJavaCompiler().run(null, null, null,
                "-cp", classes, "-d", folder.toString(), file.toString());
        if (code != 0) {
            throw new IllegalStateException(file + " does not compile");
        }
        URL[] place = {folder.toUri().toURL()};
        return new URLClassLoader(place, others).loadClass(name);
    }
}
