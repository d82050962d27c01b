import java.util.List;

/** The kinds of part 5 as Java's own classes, so that Java finds the bodies. */
final class Bodies {
    private Bodies() {
    }

    static Loss made(int kind, int number, List<Integer> ran) {
        Loss loss;
        switch (kind) {
            case 0: loss = new Loss(); break;
            case 1: loss = new Hat(); break;
            case 2: loss = new Day(); break;
            case 3: loss = new Opinion(); break;
            case 4: loss = new River(); break;
            case 5: loss = new Grief(); break;
            case 6: loss = new Blank(); break;
            default: loss = new Grand(); break;
        }
        loss.number = number;
        loss.ran = ran;
        return loss;
    }

    interface Base {
        int number();

        void runs(int body);

        int grieves(int x);

        int keeps(int x);
    }

    interface Takes extends Base {
        default int takes(int x) {
            runs(1);
            return x + number();
        }
    }

    interface Tells extends Base {
        default int tells(int x) {
            runs(2);
            return grieves(x) - keeps(1);
        }
    }

    static class Loss implements Takes, Tells {
        int number;
        List<Integer> ran;

        @Override
        public int number() {
            return number;
        }

        @Override
        public void runs(int body) {
            ran.add(body);
        }

        @Override
        public int grieves(int x) {
            runs(10);
            return takes(x) * 2;
        }

        @Override
        public int keeps(int x) {
            runs(11);
            return x ^ number;
        }
    }

    static class Hat extends Loss {
        @Override
        public int takes(int x) {
            runs(20);
            return super.takes(x) + 3;
        }
    }

    static class Day extends Loss {
        @Override
        public int grieves(int x) {
            runs(30);
            return -super.grieves(x);
        }
    }

    static class Opinion extends Day {
        @Override
        public int keeps(int x) {
            runs(40);
            return super.keeps(x) * 3;
        }

        @Override
        public int grieves(int x) {
            runs(41);
            return super.grieves(x + 1);
        }
    }

    static class River extends Hat {
        @Override
        public int keeps(int x) {
            runs(50);
            return super.keeps(x) - takes(2);
        }
    }

    static class Grief extends Opinion {
        @Override
        public int tells(int x) {
            runs(60);
            return super.tells(x) ^ 5;
        }
    }

    static class Blank extends Loss {
        @Override
        public int takes(int x) {
            runs(70);
            return super.takes(x) * 2;
        }
    }

    static class Grand extends River {
        @Override
        public int grieves(int x) {
            runs(80);
            return super.grieves(x) + keeps(2);
        }

        @Override
        public int tells(int x) {
            runs(81);
            return super.tells(x) - 1;
        }
    }
}
