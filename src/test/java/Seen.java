import java.util.ArrayList;
import java.util.List;

/** All that can be asked of a nursery; some 200 to 400 calls, so that a short run before it stays within 512. */
final class Seen {
    private Seen() {
    }

    static List<Integer> of(NurseryPlaces x) {
        List<Integer> all = new ArrayList<>();
        for (int what = 0; what < 19; what++) all.add(x.count(what));
        for (int room = 0; room < x.count(1); room++) {
            for (int what = 0; what < 40; what++) all.add(x.ofRoom(room, what));
        }
        for (int carer = 0; carer < x.count(2); carer++) {
            for (int what = 0; what < 5; what++) all.add(x.ofCarer(carer, what));
        }
        for (int child = 0; child < x.count(3); child++) {
            for (int what = 0; what < 13; what++) all.add(x.ofChild(child, what));
        }
        all.add(x.fault());
        all.add(x.wouldAdmit());
        all.add(x.sentHome(-6));
        all.add(x.income(4));
        return all;
    }
}
