/** What can be seen of an object by calls that change nothing in it: few enough, as an object has 512 calls. */
final class Seen {
    private Seen() {
    }

    /** All but the FAULT and the tape. */
    static String beyondFault(GivenSearch x) {
        StringBuilder all = new StringBuilder();
        for (int what : new int[] {0, 1, 2, 3, 4, 6}) {
            all.append(" is ").append(x.is(what));
        }
        for (int k = 0; k <= x.is(0); k++) {
            for (int what = 0; what < 4; what++) {
                all.append(what == 0 ? "\nscope " : " ").append(x.scope(k, what));
            }
        }
        for (int k = 0; k <= x.is(1); k++) {
            for (int what = 0; what < 6; what++) {
                all.append(what == 0 ? "\ngiven " : " ").append(x.given(k, what));
            }
        }
        return all.append(asking(x)).append(written(x)).toString();
    }

    /** The latest asking, as far as it is told without being written. */
    static String asking(GivenSearch x) {
        StringBuilder all = new StringBuilder("\nasked");
        for (int what = 0; what < 9; what++) {
            all.append(' ').append(x.asked(what));
        }
        all.append(" both ").append(x.both(0)).append(' ').append(x.both(1));
        for (int k = 0; k <= Math.min(Math.max(0, x.asked(5)), 8); k++) {
            for (int what = 0; what < 8; what++) {
                all.append(what == 0 ? "\nnode " : " ").append(x.node(k, what));
            }
        }
        return all.toString();
    }

    /** The bytes that were written latest. */
    static String written(GivenSearch x) {
        StringBuilder all = new StringBuilder("\nwritten ");
        for (int k = 0; k < 3000 && x.octet(k) != -1; k++) {
            all.append((char) x.octet(k));
        }
        return all.toString();
    }

    /** The four TYPES, by what they have to do with each other. */
    static String types(GivenSearch x) {
        StringBuilder all = new StringBuilder("\ntypes");
        for (int i = 0; i < 4; i++) {
            for (int j = 0; j < 4; j++) {
                for (int what = 0; what < 4; what++) {
                    all.append(' ').append(x.relation(i, j, what));
                }
            }
        }
        return all.toString();
    }
}
