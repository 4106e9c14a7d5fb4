import java.util.ArrayList;
import java.util.HashMap;
import java.util.List;
import java.util.Map;

/** All states of a text, found by crossings made by hand alone: what cross() lets through. */
final class Walk {
    int crossings = 0;
    int fewest = -1;
    int farthest = 0;
    final Map<List<Integer>, Integer> depths = new HashMap<>();
    private final String text;
    private final List<List<int[]>> rows = new ArrayList<>();

    Walk(String told) {
        text = told;
        rows.add(List.of());
        enter(Told.hall(text), 0);
        for (int i = 0; i < rows.size(); i++) {
            FerryHall hall = Told.hall(text);
            for (int[] c : rows.get(i)) {
                hall.cross(c[0], c[1], c[2]);
            }
            tryAll(hall, rows.get(i));
        }
    }

    private void tryAll(FerryHall hall, List<int[]> row) {
        for (int boat = 0; boat < hall.count(2); boat++) {
            for (int to = 0; to < hall.count(0); to++) {
                for (int set = 0; set < 1 << hall.count(1); set++) {
                    if (hall.cross(boat, to, set) == 0) {
                        crossings++;
                        if (enter(hall, row.size() + 1)) {
                            List<int[]> longer = new ArrayList<>(row);
                            longer.add(new int[] {boat, to, set});
                            rows.add(longer);
                        }
                        hall.back();
                    }
                }
            }
        }
    }

    private boolean enter(FerryHall hall, int depth) {
        List<Integer> state = new ArrayList<>();
        state.add(hall.play(2));
        for (int boat = 0; boat < hall.count(2); boat++) {
            state.add(hall.play(4 + boat));
        }
        for (int thing = 0; thing < hall.count(1); thing++) {
            state.add(hall.play(8 + thing));
        }
        if (depths.putIfAbsent(state, depth) != null) {
            return false;
        }
        farthest = Math.max(farthest, depth);
        if (hall.play(1) == 1 && fewest < 0) {
            fewest = depth;
        }
        return true;
    }
}
