/** The boundaries that the document names, each by the promise whose sentence names it. */
public final class EdgesTest {
  private EdgesTest() {}

  public static void main(String[] args) {
    PeopleEdges.all();
    TextsEdges.all();
    DaysEdges.all();
    LinesEdges.all();
    WouldBeEdges.all();
    VoicesEdges.all();
    SheetsEdges.all();
    ImagesEdges.all();
    ToldEdges.all();
    Check.about("every promise has boundaries");
    for (int promise = 1; promise <= 42; promise++) {
      Check.due("some of promise " + promise, Edge.named(promise) > 0 ? 1 : 0, 1);
    }
    Check.end("EdgesTest");
  }
}
