import java.nio.file.Path;
import java.util.List;

/** Each sentence of the document that names an edge has a test of its own. */
public final class EdgesTest {
  public static void main(String[] args) throws Exception {
    Check check = new Check();
    Doc doc = new Doc(Path.of(args[1]));
    List<Edges> all = List.of(
        new AccountEdges(check, doc), new TextEdges(check, doc), new StateEdges(check, doc),
        new LookEdges(check, doc), new DigitEdges(check, doc), new ColumnEdges(check, doc),
        new WouldBeEdges(check, doc), new ArgumentEdges(check, doc),
        new RefusedCallEdges(check, doc));
    for (Edges edges : all) {
      edges.run();
    }
    check.same("sentences without a test", List.of(), doc.untested());
    check.end("EdgesTest");
  }
}
