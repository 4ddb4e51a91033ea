import java.util.ArrayList;
import java.util.List;

/**
 * All that can be seen of an object, by looks that each want an object of their own: some change what they look at,
 * and none may lead beyond the 512th call.
 */
enum Seen {
    STATE {
        @Override
        void look(BedsThatFit x, List<Integer> seen) {
            for (int what = 0; what <= 8; what++) {
                seen.add(x.count(what));
            }
            for (int i = 0; i < 7; i++) {
                for (int what = 0; what <= 5; what++) {
                    seen.add(x.guest(i, what));
                }
            }
        }
    },
    NIGHTS {
        @Override
        void look(BedsThatFit x, List<Integer> seen) {
            for (int what = 0; what <= 3; what++) {
                seen.add(x.all(what));
            }
            for (int i = 0; i < 7; i++) {
                for (int what = 0; what <= 4; what++) {
                    seen.add(x.lies(i, what));
                }
            }
            for (int b = 0; b < 4; b++) {
                for (int n = 0; n <= 29; n++) {
                    seen.add(x.bed(b, n));
                    seen.add(n < 10 ? x.who(b, n) : 0);
                }
            }
        }
    },
    BEST {
        @Override
        void look(BedsThatFit x, List<Integer> seen) {
            for (int place = -1; place < 7; place++) {
                seen.add(x.order(place));
            }
            for (int what = 0; what <= 2; what++) {
                seen.add(x.cushion(what));
                seen.add(x.pairs(what));
            }
            for (int i = 0; i < 7; i++) {
                seen.add(x.length(i, 0));
                seen.add(x.length(i, 1));
                seen.add(x.later(i, 0));
                seen.add(x.later(i, 1));
            }
            for (int n = 0; n <= 29; n++) {
                seen.add(x.fewest(n));
            }
            seen.add(x.law());
            seen.add(x.rival());
            seen.add(x.turned());
        }
    },
    REMAINS {
        @Override
        void look(BedsThatFit x, List<Integer> seen) {
            for (int k = -1; k < 6; k++) {
                seen.add(x.slept(k));
                seen.add(x.sure(k));
                seen.add(x.found(k, 7));
                seen.add(x.year(77, k));
            }
            seen.add(x.sweep());
            seen.add(x.count(5));
        }
    },
    UNDONE {
        @Override
        void look(BedsThatFit x, List<Integer> seen) {
            for (int k = 0; k < 9; k++) {
                seen.add(x.undo());
                lookAtChanges(x, seen);
            }
        }
    },
    KEPT {
        @Override
        void look(BedsThatFit x, List<Integer> seen) {
            for (int k = 0; k < 3; k++) {
                seen.add(x.back());
                lookAtChanges(x, seen);
            }
        }
    },
    TEXT {
        @Override
        void look(BedsThatFit x, List<Integer> seen) {
            seen.add(x.fault());
            seen.add(x.lay());
            STATE.look(x, seen);
            seen.add(x.wipe());
            seen.add(x.fault());
        }
    };

    abstract void look(BedsThatFit x, List<Integer> seen);

    List<Integer> of(BedsThatFit x) {
        List<Integer> seen = new ArrayList<>();
        look(x, seen);
        return seen;
    }

    private static void lookAtChanges(BedsThatFit x, List<Integer> seen) {
        for (int i = 0; i < 7; i++) {
            seen.add(x.guest(i, 1));
            seen.add(x.guest(i, 3));
            seen.add(x.guest(i, 5));
        }
    }
}
