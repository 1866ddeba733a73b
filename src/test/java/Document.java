import java.io.IOException;
import java.nio.file.Files;
import java.nio.file.Path;
import java.util.List;

/** Tells which words of the document the tests of its edges do not quote; it judges nothing of the program. */
final class Document {
    private Document() {
    }

    static void tellUnquoted(List<String> quotes) throws IOException {
        Path path = Path.of("../shared/DOC.md");
        if (!Files.isReadable(path)) {
            System.out.println("the document is not there to be compared");
            return;
        }
        String whole = Files.readString(path);
        String text = plain(whole);
        boolean[] quoted = new boolean[text.length()];
        for (String quote : quotes) {
            String words = plain(quote);
            int at = text.indexOf(words);
            if (at < 0) {
                System.out.println("not in the document: " + quote);
            }
            for (int i = at; at >= 0 && i < at + words.length(); i++) {
                quoted[i] = true;
            }
        }
        tellGaps(text, quoted);
    }

    private static void tellGaps(String text, boolean[] quoted) {
        int begin = text.indexOf("## What it is");
        int end = text.indexOf("## Not promised");
        StringBuilder gap = new StringBuilder();
        for (int i = Math.max(0, begin); i < end; i++) {
            if (!quoted[i]) {
                gap.append(text.charAt(i));
            }
            if ((quoted[i] || i == end - 1) && gap.length() > 0) {
                if (gap.toString().matches(".*[A-Za-z0-9].*")) {
                    System.out.println("not quoted by a test: " + gap);
                }
                gap.setLength(0);
            }
        }
    }

    /** Without the face, which FaceTest looks at, marks of layout, headings and signatures. */
    private static String plain(String text) {
        return text.replaceAll("(?s)```java.*?```", "").replaceAll("(?m)^## Promise.*$", "").replaceAll("`(int \\w+|BlockTruths)\\([^`]*\\)`:", "")
            .replaceAll("```\\w*", "").replaceAll("=======* \\d?", "").replaceAll("\\s+", " ").trim();
    }
}
