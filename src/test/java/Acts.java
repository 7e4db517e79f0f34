import java.util.ArrayList;
import java.util.List;

/** The document's KINDS as Java's own classes, so that the language itself says which body runs. */
final class Acts {
    private Acts() { }

    static Hole of(int kind, int number) {
        Hole[] all = {new Hole(), new Bar(), new Chain(), new Stiff(), new Cuff(), new Wrist(), new Drop(), new Maid()};
        all[kind].number = number;
        return all[kind];
    }

    interface Runs {
        void ran(int body);

        int number();
    }

    interface Holds extends Runs {
        default int holds(int x) {
            ran(1);
            return x + number();
        }
    }

    interface Tells extends Runs {
        int gives(int x);

        int drops(int x);

        default int tells(int x) {
            ran(2);
            return gives(x) - drops(1);
        }
    }

    static class Hole implements Holds, Tells {
        final List<Integer> trace = new ArrayList<>();
        int number;

        public void ran(int body) {
            trace.add(body);
        }

        public int number() {
            return number;
        }

        public int gives(int x) {
            ran(10);
            return holds(x) * 2;
        }

        public int drops(int x) {
            ran(11);
            return x ^ number;
        }

        int acts(int act, int x) {
            trace.clear();
            switch (act) {
                case 0: return holds(x);
                case 1: return gives(x);
                case 2: return drops(x);
                default: return tells(x);
            }
        }
    }

    static class Bar extends Hole {
        public int holds(int x) {
            ran(20);
            return super.holds(x) + 3;
        }
    }

    static class Chain extends Hole {
        public int gives(int x) {
            ran(30);
            return -super.gives(x);
        }
    }

    static class Stiff extends Chain {
        public int drops(int x) {
            ran(40);
            return super.drops(x) * 3;
        }

        public int gives(int x) {
            ran(41);
            return super.gives(x + 1);
        }
    }

    static class Cuff extends Bar {
        public int drops(int x) {
            ran(50);
            return super.drops(x) - holds(2);
        }
    }

    static class Wrist extends Stiff {
        public int tells(int x) {
            ran(60);
            return super.tells(x) ^ 5;
        }
    }

    static class Drop extends Hole {
        public int holds(int x) {
            ran(70);
            return super.holds(x) * 2;
        }
    }

    static class Maid extends Cuff {
        public int gives(int x) {
            ran(80);
            return super.gives(x) + drops(2);
        }

        public int tells(int x) {
            ran(81);
            return super.tells(x) - 1;
        }
    }
}
