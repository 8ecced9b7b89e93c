import java.util.ArrayList;
import java.util.List;

/**
 * "What is refused changes nothing.": each refusal of each call comes on one of two equal kernels, and both
 * tell the same afterwards in all that can be asked of them, packets and messages that wait among it.
 */
public final class RefusalTest implements Names {
    private interface Scene {
        HandleKernel made();
    }

    private interface Call {
        long on(HandleKernel x);
    }

    private static Scene scene;

    public static void main(String[] args) {
        handlesAndValues();
        boundsAreReached();
        placesLack();
        processesLack();
        Check.end();
    }

    private static void refused(Call call, long refusal) {
        for (int part = 0; part < 3; part++) {
            HandleKernel x = scene.made();
            Check.due(call.on(x), refusal);
            List<Long> told = all(x, part);
            Check.holds(told.equals(all(scene.made(), part)), "a call that was refused with " + refusal + " changed something");
        }
    }

    private static void refusedLong(Call call, long refusal) {
        refused(call, LONG_REFUSAL + refusal);
    }

    /** All that can be asked; of a packet, which goes as soon as it is asked, one part. */
    private static List<Long> all(HandleKernel x, int part) {
        List<Long> told = new ArrayList<>();
        for (int what = 0; what < 4; what++) {
            told.add((long) x.info(0, -1, what));
        }
        for (int process = 0; process < 4; process++) {
            for (int what = 0; what < 3; what++) {
                told.add((long) x.got(process, what));
            }
            for (int place = 0; place < 10; place++) {
                handle(x, process, place, told);
            }
        }
        for (int place = 0; place < 10; place++) {
            taken(x, place, part, told);
        }
        return told;
    }

    private static void handle(HandleKernel x, int process, int place, List<Long> told) {
        int kind = x.info(process, place, 0);
        told.add((long) kind);
        for (int what = 1; what < 6 && kind >= 0; what++) {
            told.add((long) x.info(process, place, what));
        }
        for (int cell = 0; cell < 8 && kind == MEMORY; cell++) {
            told.add(x.load(process, place, cell));
        }
    }

    /** Takes what waits at a handle of process 0. */
    private static void taken(HandleKernel x, int place, int part, List<Long> told) {
        int kind = x.info(0, place, 0);
        for (int i = 0; i < 7 && kind == PORT; i++) {
            told.add(x.packet(0, place, part));
        }
        for (int i = 0; i < 5 && kind == END; i++) {
            told.add((long) x.receive(0, place));
            for (int what = 0; what < 3; what++) {
                told.add((long) x.got(0, what));
            }
            for (int what = 1; what < 3 && x.got(0, what) >= 0; what++) {
                told.add((long) x.info(0, x.got(0, what), 1));
                told.add((long) x.info(0, x.got(0, what), 2));
                x.close(0, x.got(0, what));
            }
        }
    }

    /**
     * Places 0, 1: ends, with messages that carry handles; 2: an event; 3: memory; 4: a port with two packets;
     * 5: process 1, which runs and has got a message; 6: process 2, which is dead; 7: an end whose peer is no
     * more; 8: a second handle to the event, without rights. Two watches.
     */
    private static HandleKernel lively() {
        HandleKernel x = new HandleKernel();
        x.make(0, CHANNEL);
        x.make(0, EVENT);
        x.make(0, MEMORY);
        x.make(0, PORT);
        x.copy(0, 1, ALL);
        x.spawn(0, 5);
        x.spawn(0, -1);
        x.kill(0, 6);
        x.make(0, CHANNEL);
        x.close(0, 8);
        x.send(0, 0, 40, -1, -1);
        x.receive(1, 0);
        x.copy(0, 2, SEND);
        x.send(0, 0, 41, 8, -1);
        x.copy(0, 3, SEND | READ);
        x.copy(0, 4, SEND);
        x.send(0, 1, 42, 8, 9);
        x.store(0, 3, 7, 43);
        x.signal(0, 2, 2, true);
        x.watch(0, 2, 4, 1, 44);
        x.watch(0, 2, 4, 4, 45);
        x.watch(0, 6, 4, DEAD, 46);
        x.watch(0, 5, 4, DEAD, 47);
        x.copy(0, 2, 0);
        return x;
    }

    private static void handlesAndValues() {
        Check.part("What is refused changes nothing. (handles and values)");
        scene = RefusalTest::lively;
        for (int process : new int[] {-1, 2, 3, 4}) {
            noProcess(process);
        }
        for (int handle : new int[] {-1, 9, 10}) {
            badHandle(handle);
        }
        refused(x -> x.make(0, 4), BAD_VALUE);
        refused(x -> x.make(0, -1), BAD_VALUE);
        refused(x -> x.copy(0, 8, ALL), NO_RIGHT);
        refused(x -> x.signal(0, 3, 0, true), WRONG_KIND);
        refused(x -> x.signal(0, 8, 0, true), NO_RIGHT);
        refused(x -> x.signal(0, 8, 2, false), NO_RIGHT);
        refused(x -> x.signal(0, 2, 8, true), BAD_VALUE);
        refused(x -> x.signal(0, 2, -1, true), BAD_VALUE);
        refused(x -> x.signal(0, 2, 34, false), BAD_VALUE);
        refused(x -> x.send(0, 2, 1, 3, -1), WRONG_KIND);
        refused(x -> x.send(0, 0, 1, 8, 2), NO_RIGHT);
        refused(x -> x.send(0, 0, 1, 2, 8), NO_RIGHT);
        refused(x -> x.send(0, 0, 1, 2, 2), BAD_VALUE);
        refused(x -> x.send(0, 0, 1, 0, 2), BAD_VALUE);
        refused(x -> x.send(0, 0, 1, 2, 0), BAD_VALUE);
        refused(x -> x.send(0, 7, 1, 2, 3), CLOSED);
        refused(x -> x.receive(0, 2), WRONG_KIND);
        refused(x -> x.receive(0, 7), CLOSED);
        refusedLong(x -> x.load(0, 2, 0), WRONG_KIND);
        refusedLong(x -> x.load(0, 3, 8), BAD_VALUE);
        refused(x -> x.store(0, 2, 7, 1), WRONG_KIND);
        refused(x -> x.store(0, 3, 8, 1), BAD_VALUE);
        refused(x -> x.store(0, 3, -1, 1), BAD_VALUE);
        refused(x -> x.twin(0, 2), WRONG_KIND);
        refused(x -> x.watch(0, 8, 4, 4, 1), NO_RIGHT);
        refused(x -> x.watch(0, 2, 3, 4, 1), WRONG_KIND);
        refusedLong(x -> x.packet(0, 2, 0), WRONG_KIND);
        refusedLong(x -> x.packet(0, 4, 4), BAD_VALUE);
        refusedLong(x -> x.packet(0, 4, -1), BAD_VALUE);
        refused(x -> x.spawn(0, 8), NO_RIGHT);
        refused(x -> x.kill(0, 2), WRONG_KIND);
        refused(x -> x.kill(0, 6), EMPTY);
        refused(x -> x.info(0, 2, 6), BAD_VALUE);
        refused(x -> x.info(0, -1, 4), BAD_VALUE);
        scene = RefusalTest::restricted;
        refused(x -> x.send(0, 0, 1, 2, -1), NO_RIGHT);
        refused(x -> x.receive(0, 1), NO_RIGHT);
        refusedLong(x -> x.load(0, 3, 0), NO_RIGHT);
        refused(x -> x.store(0, 3, 7, 1), NO_RIGHT);
        refused(x -> x.twin(0, 3), NO_RIGHT);
        refused(x -> x.watch(0, 2, 4, 4, 1), NO_RIGHT);
        refusedLong(x -> x.packet(0, 4, 0), NO_RIGHT);
        refused(x -> x.kill(0, 5), NO_RIGHT);
        scene = () -> {
            HandleKernel x = new HandleKernel();
            x.make(0, CHANNEL);
            x.make(0, PORT);
            return x;
        };
        refused(x -> x.receive(0, 0), EMPTY);
        refusedLong(x -> x.packet(0, 2, 0), EMPTY);
    }

    /** As before, with few rights; second handles, at 8 to the memory and at 9 to the port, have READ. */
    private static HandleKernel restricted() {
        HandleKernel x = lively();
        x.close(0, 8);
        x.copy(0, 3, READ);
        x.copy(0, 4, READ);
        x.restrict(0, 0, READ);
        x.restrict(0, 1, WRITE);
        x.restrict(0, 3, COPY);
        x.restrict(0, 4, COPY);
        x.restrict(0, 5, READ);
        return x;
    }

    private static void noProcess(int p) {
        refused(x -> x.make(p, EVENT), NO_PROCESS);
        refused(x -> x.copy(p, 2, ALL), NO_PROCESS);
        refused(x -> x.restrict(p, 2, 0), NO_PROCESS);
        refused(x -> x.close(p, 2), NO_PROCESS);
        refused(x -> x.signal(p, 2, 0, true), NO_PROCESS);
        refused(x -> x.send(p, 0, 1, 2, 3), NO_PROCESS);
        refused(x -> x.receive(p, 0), NO_PROCESS);
        refusedLong(x -> x.load(p, 3, 0), NO_PROCESS);
        refused(x -> x.store(p, 3, 0, 1), NO_PROCESS);
        refused(x -> x.twin(p, 3), NO_PROCESS);
        refused(x -> x.watch(p, 2, 4, 4, 1), NO_PROCESS);
        refusedLong(x -> x.packet(p, 4, 0), NO_PROCESS);
        refused(x -> x.spawn(p, 2), NO_PROCESS);
        refused(x -> x.kill(p, 5), NO_PROCESS);
        refused(x -> x.info(p, 2, 0), NO_PROCESS);
    }

    private static void badHandle(int h) {
        refused(x -> x.copy(0, h, ALL), BAD_HANDLE);
        refused(x -> x.restrict(0, h, 0), BAD_HANDLE);
        refused(x -> x.close(0, h), BAD_HANDLE);
        refused(x -> x.signal(0, h, 0, true), BAD_HANDLE);
        refused(x -> x.send(0, h, 1, 2, 3), BAD_HANDLE);
        refused(x -> x.receive(0, h), BAD_HANDLE);
        refusedLong(x -> x.load(0, h, 0), BAD_HANDLE);
        refused(x -> x.store(0, h, 0, 1), BAD_HANDLE);
        refused(x -> x.twin(0, h), BAD_HANDLE);
        refused(x -> x.watch(0, h, 4, 4, 1), BAD_HANDLE);
        refused(x -> x.watch(0, 2, h, 4, 1), BAD_HANDLE);
        refusedLong(x -> x.packet(0, h, 0), BAD_HANDLE);
        refused(x -> x.kill(0, h), BAD_HANDLE);
        if (h != -1) {
            refused(x -> x.send(0, 0, 1, h, 2), BAD_HANDLE);
            refused(x -> x.send(0, 0, 1, 2, h), BAD_HANDLE);
            refused(x -> x.spawn(0, h), BAD_HANDLE);
            refused(x -> x.info(0, h, 0), BAD_HANDLE);
        }
    }

    /** 16 objects, 12 watches, an end with 4 messages. Places 0, 1: ends; 2: memory; 3: a port; 4: an event. */
    private static HandleKernel full() {
        HandleKernel x = new HandleKernel();
        x.make(0, CHANNEL);
        x.make(0, MEMORY);
        x.make(0, PORT);
        x.make(0, EVENT);
        for (int i = 0; i < 4; i++) {
            x.make(0, EVENT);
            x.make(0, MEMORY);
            x.send(0, 0, i, 5, 6);
        }
        for (int i = 0; i < 3; i++) {
            x.make(0, PORT);
        }
        for (int i = 0; i < 12; i++) {
            x.watch(0, 4, 3, 1, i);
        }
        x.signal(0, 4, 1, true);
        return x;
    }

    private static void boundsAreReached() {
        Check.part("What is refused changes nothing. (FULL)");
        scene = RefusalTest::full;
        for (int i = 0; i < 4; i++) {
            int kind = i;
            refused(x -> x.make(0, kind), FULL);
        }
        refused(x -> x.twin(0, 2), FULL);
        refused(x -> x.spawn(0, -1), FULL);
        refused(x -> x.spawn(0, 4), FULL);
        refused(x -> x.send(0, 0, 9, 4, 2), FULL);
        refused(x -> x.watch(0, 4, 3, 2, 9), FULL);
        refused(x -> x.watch(0, 4, 3, 1, 9), FULL);
    }

    /** No place of process 0 is free, and a message with two handles waits for the end at 1. */
    private static HandleKernel crammed() {
        HandleKernel x = new HandleKernel();
        x.make(0, CHANNEL);
        x.make(0, MEMORY);
        x.make(0, EVENT);
        x.make(0, PORT);
        x.send(0, 0, 5, 3, 4);
        Scenes.fillPlaces(x, 2, 0);
        return x;
    }

    private static void placesLack() {
        Check.part("What is refused changes nothing. (NO_ROOM)");
        scene = RefusalTest::crammed;
        for (int i = 0; i < 4; i++) {
            int kind = i;
            refused(x -> x.make(0, kind), NO_ROOM);
        }
        refused(x -> x.copy(0, 2, 0), NO_ROOM);
        refused(x -> x.receive(0, 1), NO_ROOM);
        refused(x -> x.twin(0, 2), NO_ROOM);
        refused(x -> x.spawn(0, -1), NO_ROOM);
        scene = () -> {
            HandleKernel x = crammed();
            x.close(0, 9);
            return x;
        };
        refused(x -> x.make(0, CHANNEL), NO_ROOM);
        refused(x -> x.receive(0, 1), NO_ROOM);
    }

    private static void processesLack() {
        Check.part("What is refused changes nothing. (no process is left to spawn)");
        scene = () -> {
            HandleKernel x = lively();
            x.close(0, 7);
            x.spawn(0, -1);
            return x;
        };
        refused(x -> x.spawn(0, -1), BAD_VALUE);
        refused(x -> x.spawn(0, 2), BAD_VALUE);
    }
}
