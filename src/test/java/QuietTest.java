import java.util.ArrayList;
import java.util.List;

/** What only asks changes nothing: no call's answer depends on what was asked ahead of it. */
public final class QuietTest {
    private static final String[] QUERIES = {
        "of 0 4", "of 1 5", "of 2 6", "goodOf 1 0 1", "rowOf 1 0 3", "termOf 0", "amount 0 1 0 0", "amount 1 1 2 1", "brings 0 -1 1 0",
        "brings 1 1 0 0", "brings 2 -1 0 1", "total 0 0", "total 1 0", "total 2 1", "opens 0 0", "opens 1 1", "opens 1 2", "opens 2 0", "opens 2 2",
        "openAt 0 0", "openAt 1 0", "openAt 2 1", "isOpen 0 1", "isOpen 1 5", "price 0 0 0", "price 0 1 0", "price 1 0 0", "price 1 1 0", "price 2 0 1",
        "weigh 0 0", "weigh 0 1", "weigh 0 2", "weigh 1 2", "breaks 0", "breaks 1", "breaks -1", "breakAt -1 1 0", "breakAt 1 0 1", "piece 0 2",
        "piece 1 4", "best 0", "best 2", "asKind 0 0", "asKind 3 2", "asKind 6 1", "kindFor 0", "kindFor 1", "kindFor 2", "tollFor 0 0", "tollFor 1 2",
        "tollFor 2 1", "without 0", "without 1", "without 2", "mostFor 20", "mostFor -5", "fits 0 0 0", "fits 1 1 1", "fits 1 2 0", "row 0 4", "judge",
        "item 0 1", "taken 1 7", "count 5", "count 6", "status -1", "openAt 0 99", "breakAt 0 99 0", "mostFor 9999", "of 9 0",
    };

    public static void main(String[] args) {
        Edges.begin("What only asks", "");
        Run[] scenes = {Scenes.full(), Scenes.unlike(), Scenes.manyBreaks()};
        for (Run scene : scenes) {
            for (String one : QUERIES) {
                if (!Run.isFinding(one, scene.again().ask(one))) {
                    scene.asks(one);
                }
            }
            checkPairs(scene);
        }
        Edges.exit();
    }

    private static void checkPairs(Run scene) {
        List<Long> plain = new ArrayList<>();
        for (String two : QUERIES) {
            plain.add(scene.again().ask(two));
        }
        for (String one : QUERIES) {
            Run x = scene.again();
            for (int i = 0; i < QUERIES.length; i++) {
                if (!QUERIES[i].startsWith("status")) {
                    x.ask(one);
                    x.due(QUERIES[i], plain.get(i));
                }
            }
        }
    }
}
