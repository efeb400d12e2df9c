import java.util.ArrayList;
import java.util.List;

/** The document's bodies as Java itself calls them: by classes under one another. */
final class OracleBody {
    static final List<Integer> TRACE = new ArrayList<>();

    private OracleBody() {
    }

    private static void ran(int body) {
        TRACE.add(body);
    }

    interface Hums {
        int number();

        default int hums(int x) {
            ran(1);
            return x + number();
        }
    }

    interface Tells {
        int lies(int x);

        int rings(int x);

        default int tells(int x) {
            ran(2);
            return lies(x) - rings(1);
        }
    }

    static class Bell implements Hums, Tells {
        private final int n;

        Bell(int n) {
            this.n = n;
        }

        int kind() {
            return 0;
        }

        @Override
        public int number() {
            return n;
        }

        @Override
        public int lies(int x) {
            ran(10);
            return hums(x) * 2;
        }

        @Override
        public int rings(int x) {
            ran(11);
            return x ^ n;
        }

        int does(int act, int x) {
            TRACE.clear();
            return act == 0 ? hums(x) : act == 1 ? lies(x) : act == 2 ? rings(x) : tells(x);
        }
    }

    static class Deep extends Bell {
        Deep(int n) {
            super(n);
        }

        @Override
        int kind() {
            return 1;
        }

        @Override
        public int hums(int x) {
            ran(20);
            return super.hums(x) + 3;
        }
    }

    static class False extends Bell {
        False(int n) {
            super(n);
        }

        @Override
        int kind() {
            return 2;
        }

        @Override
        public int lies(int x) {
            ran(30);
            return -super.lies(x);
        }
    }

    static class Cracked extends False {
        Cracked(int n) {
            super(n);
        }

        @Override
        int kind() {
            return 3;
        }

        @Override
        public int rings(int x) {
            ran(40);
            return super.rings(x) * 3;
        }

        @Override
        public int lies(int x) {
            ran(41);
            return super.lies(x + 1);
        }
    }

    static class Sunk extends Deep {
        Sunk(int n) {
            super(n);
        }

        @Override
        int kind() {
            return 4;
        }

        @Override
        public int rings(int x) {
            ran(50);
            return super.rings(x) - hums(2);
        }
    }

    static class Cast extends Cracked {
        Cast(int n) {
            super(n);
        }

        @Override
        int kind() {
            return 5;
        }

        @Override
        public int tells(int x) {
            ran(60);
            return super.tells(x) ^ 5;
        }
    }

    static class Found extends Bell {
        Found(int n) {
            super(n);
        }

        @Override
        int kind() {
            return 6;
        }

        @Override
        public int hums(int x) {
            ran(70);
            return super.hums(x) * 2;
        }
    }

    static class Lost extends Sunk {
        Lost(int n) {
            super(n);
        }

        @Override
        int kind() {
            return 7;
        }

        @Override
        public int lies(int x) {
            ran(80);
            return super.lies(x) + rings(2);
        }

        @Override
        public int tells(int x) {
            ran(81);
            return super.tells(x) - 1;
        }
    }

    static final Class<?>[] KINDS = {Bell.class, Deep.class, False.class, Cracked.class, Sunk.class, Cast.class,
        Found.class, Lost.class};

    static Bell of(int kind, int n) {
        switch (kind) {
            case 0: return new Bell(n);
            case 1: return new Deep(n);
            case 2: return new False(n);
            case 3: return new Cracked(n);
            case 4: return new Sunk(n);
            case 5: return new Cast(n);
            case 6: return new Found(n);
            default: return new Lost(n);
        }
    }
}
