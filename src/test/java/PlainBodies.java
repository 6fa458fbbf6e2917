import java.util.List;

/** The kinds as Java's own classes, so that Java itself finds the body of each act. */
final class PlainBodies {
    private PlainBodies() {
    }

    interface Noting {
        void note(int number);

        int n();
    }

    interface Holds extends Noting {
        default int holds(int x) {
            note(1);
            return x + n();
        }
    }

    interface Tells extends Noting {
        int pulls(int x);

        int frees(int x);

        default int tells(int x) {
            note(2);
            return pulls(x) - frees(1);
        }
    }

    static class Tack implements Holds, Tells {
        private int n;
        private List<Integer> trace;

        public int n() {
            return n;
        }

        public void note(int number) {
            trace.add(number);
        }

        public int pulls(int x) {
            note(10);
            return holds(x) * 2;
        }

        public int frees(int x) {
            note(11);
            return x ^ n;
        }
    }

    static class Sole extends Tack {
        @Override
        public int holds(int x) {
            note(20);
            return super.holds(x) + 3;
        }
    }

    static class Lace extends Tack {
        @Override
        public int pulls(int x) {
            note(30);
            return -super.pulls(x);
        }
    }

    static class Heel extends Lace {
        @Override
        public int frees(int x) {
            note(40);
            return super.frees(x) * 3;
        }

        @Override
        public int pulls(int x) {
            note(41);
            return super.pulls(x + 1);
        }
    }

    static class Jar extends Sole {
        @Override
        public int tells(int x) {
            note(50);
            return super.tells(x) ^ 5;
        }
    }

    static class Verger extends Heel {
        @Override
        public int frees(int x) {
            note(60);
            return super.frees(x) - holds(2);
        }

        @Override
        public int tells(int x) {
            note(61);
            return super.tells(x) + 1;
        }
    }

    static class Pitt extends Tack {
        @Override
        public int holds(int x) {
            note(70);
            return super.holds(x) * 2;
        }
    }

    static class Child extends Pitt {
        @Override
        public int pulls(int x) {
            note(80);
            return super.pulls(x) + frees(2);
        }

        @Override
        public int holds(int x) {
            note(81);
            return super.holds(x) - 1;
        }
    }

    static Tack make(int kind, int n, List<Integer> trace) {
        Tack tack = switch (kind) {
            case 0 -> new Tack();
            case 1 -> new Sole();
            case 2 -> new Lace();
            case 3 -> new Heel();
            case 4 -> new Jar();
            case 5 -> new Verger();
            case 6 -> new Pitt();
            default -> new Child();
        };
        tack.n = n;
        tack.trace = trace;
        return tack;
    }
}
