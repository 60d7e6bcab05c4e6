import java.util.ArrayList;
import java.util.List;

/**
 * An object for more calls than the document promises of one: where 512 calls are used up, a new one
 * is told all the changes once more, and has to answer them as the one ahead did.
 */
final class Renewed {
    /** A call, or some, by which an object is changed; a boolean answer counts 1 or 0. */
    interface Change {
        long on(ZoneCapacity x);
    }

    private static final int MOST_CALLS = 512;

    private final List<Change> changes = new ArrayList<>();
    private final List<Long> answers = new ArrayList<>();
    private int callsOfChanges;
    private ZoneCapacity x = new ZoneCapacity();
    private int calls;

    /** The object, for one call that changes nothing. */
    ZoneCapacity look() {
        makeRoom(1);
        calls++;
        return x;
    }

    /** A change of so many calls: what it answers. */
    long change(int many, Change change) {
        makeRoom(many);
        long answer = change.on(x);
        changes.add(change);
        answers.add(answer);
        callsOfChanges += many;
        calls += many;
        return answer;
    }

    private void makeRoom(int many) {
        if (calls + many <= MOST_CALLS) {
            return;
        }
        x = new ZoneCapacity();
        for (int i = 0; i < changes.size(); i++) {
            Check.due("change " + i + ", told once more,", changes.get(i).on(x), answers.get(i));
        }
        calls = callsOfChanges;
        Check.due("a test's changes are too many for one object", calls + many > MOST_CALLS, false);
    }
}
