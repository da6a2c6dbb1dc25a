import java.io.IOException;
import java.nio.file.Files;
import java.nio.file.Path;

/**
 * Each sentence of the document (but for "The public face", see FaceTest) that names a boundary case has a test of its own here: the last
 * good value and the first bad one, the empty and the full, the way past the last bed, the refused call.
 */
public final class SentencesTest {
    public static void main(String[] args) throws IOException {
        Sentences sentences = new Sentences();
        UseEdges.tell(sentences);
        TermsEdges.tell(sentences);
        ScriptEdges.tell(sentences);
        UndoEdges.tell(sentences);
        ChangeEdges.tell(sentences);
        ClipEdges.tell(sentences);
        BedEdges.tell(sentences);
        CutEdges.tell(sentences);
        sentences.compareWith(Files.readString(Path.of(System.getProperty("shared", "../shared"), "DOC.md")));
        sentences.end();
    }
}
