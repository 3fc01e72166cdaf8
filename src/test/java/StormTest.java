import java.util.ArrayList;
import java.util.List;

/**
 * Any calls with any arguments: none throws; and what was asked in between changes no answer, so another object that
 * had the changing calls alone answers the last question alike.
 */
public final class StormTest {
    private static final int[] EDGES = {Integer.MIN_VALUE, -2, -1, 0, 1, 2, 3, 4, 5, 13, 14, 39, 40, 41, 59, 60, 61, 98,
        99, 100, 239, 240, 241, 1980, 1999, 2000, 2001, 9999, Integer.MAX_VALUE, Integer.MAX_VALUE - 1};
    private static final int CHANGES = 10;
    private static final int CALLS = 44;

    private StormTest() {
    }

    public static void main(String[] args) {
        int runs = args.length > 1 ? Integer.parseInt(args[1]) : 400;
        for (int seed = 1; seed <= runs; seed++) {
            run(new Chance(seed));
        }
        Due.end("StormTest");
    }

    private static void run(Chance chance) {
        TypeLock lock = new TypeLock();
        List<int[]> changes = new ArrayList<>();
        List<String> texts = new ArrayList<>();
        for (int calls = chance.from(20, 400); calls > 0; calls--) {
            if (chance.oneIn(60)) {
                Teller teller = new Teller(chance);
                teller.tellAll(chance.oneIn(3) ? 60 : chance.from(2, 12), chance.from(1, 6));
                if (teller.text().length() < 1900) {
                    changes.add(new int[] {CALLS, texts.size()});
                    texts.add(teller.text());
                    lock.back(lock.count(5));
                    Due.read(lock, teller.text());
                    continue;
                }
            }
            int[] call = {chance.below(CALLS), some(chance), some(chance), some(chance), chance.below(2), some(chance)};
            if (call[0] < CHANGES) {
                changes.add(call);
            }
            long answer = answer(lock, call);
            if (chance.oneIn(12)) {
                TypeLock other = replay(changes, texts);
                if (call[0] >= CHANGES) {
                    Due.due("call " + call[0] + "(" + call[1] + ", " + call[2] + ", " + call[3] + ")",
                            answer(other, call), answer);
                }
                Due.due("THINGS", other.count(3), lock.count(3));
            }
        }
    }

    private static int some(Chance chance) {
        int kind = chance.below(8);
        return kind == 0 ? chance.below(Integer.MAX_VALUE) - (1 << 30) : kind < 3 ? EDGES[chance.below(EDGES.length)]
                : kind < 6 ? chance.below(7) : chance.below(60);
    }

    private static TypeLock replay(List<int[]> changes, List<String> texts) {
        TypeLock lock = new TypeLock();
        for (int[] call : changes) {
            if (call[0] == CALLS) {
                lock.back(lock.count(5));
                Due.read(lock, texts.get(call[1]));
            } else {
                answer(lock, call);
            }
        }
        return lock;
    }

    private static long answer(TypeLock lock, int[] call) {
        int a = call[1];
        int b = call[2];
        int c = call[3];
        boolean yes = call[4] == 1;
        switch (call[0]) {
            case 0: return lock.feed(a, b, c, 0x20202020, call[5]);
            case 1: return lock.back(a);
            case 2: return a % 5 == 0 ? lock.read() : lock.lay(a, b, c, yes);
            case 3: return lock.lay(a, b, c, yes);
            case 4: return lock.take(a);
            case 5: return lock.tight(a, yes) ? 1 : 0;
            case 6: return lock.log(a, b, c, yes);
            case 7: return lock.annul(a);
            case 8: return lock.hold(a) ? 1 : 0;
            case 9: return lock.again(a) ? 1 : 0;
            case 10: return lock.place();
            case 11: return lock.kind(a, b);
            case 12: return lock.thing(a, b);
            case 13: return lock.at(a, b);
            case 14: return lock.empty();
            case 15: return lock.touch(a, b);
            case 16: return lock.pushed(a, b);
            case 17: return lock.borne(a, b);
            case 18: return lock.held(a);
            case 19: return lock.holding();
            case 20: return lock.drops(a);
            case 21: return lock.round(a);
            case 22: return lock.keeps(a);
            case 23: return lock.key();
            case 24: return lock.seeming(a);
            case 25: return lock.joint(yes, a);
            case 26: return lock.longest();
            case 27: return lock.order(a);
            case 28: return lock.ordered(a);
            case 29: return lock.gives(a);
            case 30: return lock.shift(a, b);
            case 31: return lock.bow(a, b);
            case 32: return lock.judge();
            case 33: return lock.breaks(a);
            case 34: return lock.line(a, b, c);
            case 35: return lock.nearest(a, b);
            case 36: return lock.gap(a, b, c);
            case 37: return lock.lack(a, b, c);
            case 38: return lock.worst(a);
            case 39: return lock.page(a, b, c);
            case 40: return lock.lies(a, b, c, call[5]);
            case 41: return lock.tuesday(a, b);
            case 42: return lock.count(a);
            default: return lock.count(a + 20);
        }
    }
}
