/** Each sentence of the document that names an edge, by itself, told by its own words. */
public final class EdgeTest {
    private EdgeTest() {
    }

    public static void main(String[] args) {
        SettingEdges.all();
        TextEdges.all();
        SplitEdges.all();
        BookEdges.all();
        PlanEdges.all();
        DrawEdges.all();
        Meanings.all();
        GameMeanings.all();
        Doc.allSaid();
        Due.end("EdgeTest");
    }
}
