import java.util.ArrayList;
import java.util.List;

/**
 * What an object tells, as texts of calls with their answers. A look takes so
 * few calls that an object made for it stays below 512; some of them use the
 * object up, so that each look wants a new one.
 */
enum Look {
    FIELD {
        @Override
        void look(SecondBest x, List<String> told) {
            for (int n = 0; n < 12; n++) {
                for (int what = 0; what < 13; what++) {
                    if (n < 8 && what < 4 || what > 9) {
                        told.add("of(" + n + ", " + what + ") " + x.of(n, what));
                    }
                }
            }
            for (int place = -1; place < 8; place++) {
                told.add("orders(" + place + ") " + x.orders(place));
                told.add("places(" + place + ") " + x.places(place));
                told.add("table(" + place + ", 0) " + x.table(place, 0));
                told.add("table(" + place + ", 1) " + x.table(place, 1));
            }
            told.add("table(0, 2) " + x.table(0, 2));
            told.add("clash() " + x.clash());
            told.add("wrong() " + x.wrong());
            for (int ab = 1; ab < 77; ab += 3) {
                told.add("sure(" + ab + ") " + x.sure(ab));
                told.add("longest(" + ab + ") " + x.longest(ab));
            }
            for (int m = -1; m < 12; m++) {
                told.add("days(1, " + m + ") " + x.days(1, m));
                told.add("days(4, " + m + ") " + x.days(4, m));
            }
        }
    },

    QUESTIONS {
        @Override
        void look(SecondBest x, List<String> told) {
            int[] questions = {0, 10, 20, 21, 23, 27, 30, 40, 51, 52, 54, 60, 61, 63, 67};
            for (int qk : questions) {
                for (int what = 0; what < 3; what++) {
                    told.add("ask(" + qk + ", " + what + ") " + x.ask(qk, what));
                }
                told.add("proof(" + qk + ") " + x.proof(qk));
                told.add("worst(" + qk + ") " + x.worst(qk));
                for (int part = 0; part < 2; part++) {
                    told.add("mean(" + qk + ", " + part + ") " + x.mean(qk, part));
                    told.add("next(" + qk + ", " + part + ") " + x.next(qk, part));
                }
            }
        }
    },

    CUP {
        @Override
        void look(SecondBest x, List<String> told) {
            for (int p = 0; p < 8; p++) {
                for (int what = 0; what < 3; what++) {
                    told.add("likely(" + p + ", " + what + ", 0) " + x.likely(p, what, 0));
                    told.add("likely(" + p + ", " + what + ", 1) " + x.likely(p, what, 1));
                }
                told.add("friend(" + p + ") " + x.friend(p));
                told.add("lots(7, 50, " + p + ") " + x.lots(7, 50, p));
            }
            told.add("champion(0) " + x.champion(0));
            told.add("champion(1) " + x.champion(1));
            chances(x, told);
            told.add("law() " + x.law());
            chances(x, told);
        }

        private void chances(SecondBest x, List<String> told) {
            for (int ab = 1; ab < 77; ab += 3) {
                told.add("chance(" + ab + ", " + ab % 3 + ") " + x.chance(ab, ab % 3));
            }
        }
    },

    SHELVES {
        @Override
        void look(SecondBest x, List<String> told) {
            for (int shelf = 0; shelf < 6; shelf++) {
                for (int i = 0; i < 60; i += i < 5 || i > 53 ? 1 : 7) {
                    told.add("element(" + shelf + ", " + i + ") " + x.element(shelf, i));
                }
                told.add("put(" + shelf + ", 0, -1) " + x.put(shelf, 0, -1));
                told.add("element(" + shelf + ", 0) " + x.element(shelf, 0));
                for (int k = 0; k < 8; k++) {
                    told.add("taken(" + shelf + ", " + k + ") " + x.taken(shelf, k));
                }
            }
        }
    },

    ACTS {
        @Override
        void look(SecondBest x, List<String> told) {
            for (int i = 0; i < 25; i++) {
                told.add("trace(" + i + ") " + x.trace(i));
            }
            for (int body = 0; body < 50; body++) {
                told.add("act(" + body + ", 3, 9) " + x.act(body, 3, 9));
            }
        }
    },

    CHANGES {
        @Override
        void look(SecondBest x, List<String> told) {
            for (int n = 0; n < 41; n++) {
                told.add("redo() " + x.redo());
            }
            stands(x, told);
            for (int n = 0; n < 41; n++) {
                told.add("undo() " + x.undo());
                stands(x, told);
            }
            for (int n = 0; n < 41; n++) {
                told.add("redo() " + x.redo());
            }
            stands(x, told);
        }

        private void stands(SecondBest x, List<String> told) {
            told.add("of(0, 0) " + x.of(0, 0));
            told.add("of(1, 0) " + x.of(1, 0));
            told.add("of(0, 12) " + x.of(0, 12));
            told.add("of(3, 12) " + x.of(3, 12));
        }
    },

    /** What may still come: each sort until it is refused. */
    ROOM {
        @Override
        void look(SecondBest x, List<String> told) {
            for (int what = 0; what < 7; what++) {
                told.add("count(" + what + ") " + x.count(what));
            }
            for (int n = 0; n < 9; n++) {
                told.add("player(7) " + x.player(7));
                told.add("cup(" + n + ") " + x.cup(n));
            }
            for (int n = 0; n < 13; n++) {
                told.add("match(67) " + x.match(67));
            }
            for (int n = 0; n < 51; n++) {
                told.add("body(1) " + x.body(1));
            }
            for (int n = 0; n < 121; n++) {
                told.add("feed(49) " + x.feed('1'));
            }
            told.add("law() " + x.law());
        }
    };

    abstract void look(SecondBest x, List<String> told);

    List<String> at(SecondBest x) {
        List<String> told = new ArrayList<>();
        look(x, told);
        return told;
    }
}
