import java.nio.charset.StandardCharsets;

/** What the tests share: the count of wrong answers, and how a text comes onto a tape. */
final class Due {
    private static int wrong;
    private static int looked;

    private Due() {
    }

    static void due(String what, long got, long want) {
        looked++;
        if (got != want) {
            wrong++;
            if (wrong <= 40) {
                System.out.println((what.length() > 200 ? what.substring(0, 200) + " .." : what) + " answered " + got + ", due is " + want);
            }
        }
    }

    static void due(String what, boolean got, boolean want) {
        due(what, got ? 1 : 0, want ? 1 : 0);
    }

    static void end(String test) {
        System.out.println(test + ": " + looked + " answers looked at, " + wrong + " not as due");
        if (wrong != 0) {
            System.exit(1);
        }
    }

    static int wrongSoFar() {
        return wrong;
    }

    static byte[] bytes(String text) {
        return text.getBytes(StandardCharsets.ISO_8859_1);
    }

    /** Feeds these bytes; answers how many the tape has then. */
    static int tape(TypeLock lock, byte[] bytes) {
        int many = lock.count(5);
        for (int i = 0; i < bytes.length; i += 20) {
            int[] five = new int[5];
            for (int j = 0; j < 20; j++) {
                int b = i + j < bytes.length ? bytes[i + j] & 255 : ' ';
                five[j / 4] = five[j / 4] << 8 | b;
            }
            int due = many + 20 <= 2000 ? many + 20 : -1;
            int got = lock.feed(five[0], five[1], five[2], five[3], five[4]);
            due("feed", got, due);
            many = got;
        }
        int over = (20 - bytes.length % 20) % 20;
        if (over > 0) {
            many = lock.back(over);
        }
        return many;
    }

    static int read(TypeLock lock, String text) {
        tape(lock, bytes(text));
        return lock.read();
    }

    /** A new object with this text, which has no FAULT. */
    static TypeLock lock(String text) {
        TypeLock lock = new TypeLock();
        due("read() of " + text, read(lock, text), 0);
        return lock;
    }

    static void dueFault(String text, int fault, int place) {
        TypeLock lock = new TypeLock();
        int got = read(lock, text);
        due("read() of " + text, got, fault);
        due("place() of " + text, lock.place(), place);
    }
}
