import java.util.ArrayList;
import java.util.List;

/** Each promise has tests of its edges, and each of these names its promise. */
public final class CoverTest {
    private static final int PROMISES = 38;
    private static final Class<?>[] BOUNDS = {LandBoundsTest.class, UsesBoundsTest.class, TradeBoundsTest.class,
        PlansBoundsTest.class, StateBoundsTest.class};

    public static void main(String[] args) {
        List<String> names = new ArrayList<>();
        for (Class<?> tests : BOUNDS) {
            names.addAll(Each.of(tests).keySet());
        }
        for (int promise = 1; promise <= PROMISES; promise++) {
            String mine = "promise" + promise + "[A-Z].*";
            Due.isTrue("no test of the edges of promise " + promise, names.stream().anyMatch(n -> n.matches(mine)));
        }
        for (String name : names) {
            Due.isTrue("which promise? " + name, name.matches("promise([1-9]|[12][0-9]|3[0-8])[A-Z].*"));
        }
        Due.end();
    }
}
