/** As many twins of an object as its questions need, however many calls they are. */
final class Twins {
    private final Probes base;
    private Probes asked;

    Twins(Probes base) {
        this.base = base;
        asked = base.twin();
    }

    /** A twin of which another question can be asked, if the question changes nothing. */
    Probes one() {
        if (asked.callsLeft() == 0) asked = base.twin();
        return asked;
    }

    /** A twin that may be changed by some calls: no other question is asked of it. */
    Probes changeable(int calls) {
        Probes twin = base.twin();
        if (twin.callsLeft() < calls) throw new IllegalStateException("the object has had too many calls");
        return twin;
    }
}
