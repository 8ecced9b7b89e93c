/** Each promise of the document by itself: ordinary inputs, the edges that are named, and wrong inputs. */
public final class PromiseTest implements Names {
    private static final int[] NOT_RUNNING = {-1, 1, 2, 3, 4, LEAST, MOST};
    private static final int[] NO_HANDLES = {-1, -2, 9, 10, 11, LEAST, MOST};

    public static void main(String[] args) {
        promise1();
        promise2();
        promise2Full();
        promise2SlotsAreNew();
        promise2AllSixteen();
        promise3();
        promise4();
        promise5();
        promise6();
        promise7();
        promise7Tests();
        promise8();
        promise8Rights();
        promise9();
        promise10();
        promise11();
        promise12();
        promise13();
        promise14();
        promise15();
        promise15Refusals();
        promise16();
        promise17();
        Check.end();
    }

    private static void due(long got, long want) {
        Check.due(got, want);
    }

    private static void promise1() {
        Check.part("promise 1");
        HandleKernel x = new HandleKernel();
        due(x.info(0, -1, 0), 0);
        due(x.info(0, -1, 1), 0);
        due(x.info(0, -1, 2), 1);
        due(x.info(0, -1, 3), 0);
        for (int place = 0; place < 10; place++) {
            due(x.info(0, place, 0), BAD_HANDLE);
        }
        for (int process : NOT_RUNNING) {
            due(x.info(process, -1, 0), NO_PROCESS);
        }
        due(x.got(0, 0), 0);
        due(x.got(0, 1), -1);
        due(x.got(0, 2), -1);
        HandleKernel y = new HandleKernel();
        due(y.make(0, EVENT), 0);
        due(y.signal(0, 0, 3, true), 8);
        due(x.info(0, -1, 0), 0);
        due(x.make(0, EVENT), 0);
        due(x.info(0, 0, 3), 0);
    }

    private static void promise2() {
        Check.part("promise 2");
        HandleKernel x = new HandleKernel();
        int[] kinds = {EVENT, MEMORY, PORT};
        for (int i = 0; i < 3; i++) {
            due(x.make(0, kinds[i]), i);
            due(x.info(0, i, 0), kinds[i]);
            due(x.info(0, i, 1), i);
            due(x.info(0, i, 2), ALL);
            due(x.info(0, i, 3), 0);
            due(x.info(0, i, 4), 1);
            due(x.info(0, i, 5), -1);
        }
        for (int cell = 0; cell < 8; cell++) {
            due(x.load(0, 1, cell), 0);
        }
        due(x.packet(0, 2, 3), 0);
        due(x.make(0, EVENT), 3);
        due(x.close(0, 0), OK);
        due(x.close(0, 2), OK);
        due(x.make(0, CHANNEL), 16 * 2 + 0);
        due(x.info(0, 0, 0), END);
        due(x.info(0, 2, 0), END);
        due(x.info(0, 0, 1), 4);
        due(x.info(0, 2, 1), 5);
        due(x.info(0, 0, 5), 5);
        due(x.info(0, 2, 5), 4);
        due(x.info(0, 0, 2), ALL);
        due(x.info(0, 2, 2), ALL);
        due(x.info(0, -1, 3), 6);
        due(x.info(0, -1, 0), 4);
        for (int kind : new int[] {4, 5, -1, 16, LEAST, MOST}) {
            due(x.make(0, kind), BAD_VALUE);
        }
        for (int process : NOT_RUNNING) {
            due(x.make(process, EVENT), NO_PROCESS);
            due(x.make(process, 4), NO_PROCESS);
        }
        due(x.info(0, -1, 3), 6);
        HandleKernel y = new HandleKernel();
        y.make(0, EVENT);
        Scenes.fillPlaces(y, 0, 1);
        due(y.make(0, CHANNEL), NO_ROOM);
        due(y.info(0, -1, 3), 1);
        due(y.make(0, PORT), 9);
        due(y.make(0, EVENT), NO_ROOM);
        due(y.make(0, MEMORY), NO_ROOM);
        due(y.make(0, PORT), NO_ROOM);
        due(y.make(0, CHANNEL), NO_ROOM);
        due(y.make(0, 4), BAD_VALUE);
        due(y.info(0, -1, 3), 2);
    }

    private static void promise2Full() {
        Check.part("promise 2, FULL");
        HandleKernel x = Scenes.crowded(1);
        due(x.info(0, -1, 0), 15);
        due(x.make(0, CHANNEL), FULL);
        due(x.make(1, CHANNEL), FULL);
        due(x.make(1, EVENT), NO_ROOM);
        int made = x.info(0, -1, 3);
        due(x.make(0, EVENT), 0);
        due(x.info(0, -1, 0), 16);
        due(x.info(0, 0, 1), made);
        due(x.make(0, EVENT), FULL);
        due(x.make(0, MEMORY), FULL);
        due(x.make(0, PORT), FULL);
        due(x.make(1, EVENT), FULL);
        due(x.make(0, 4), BAD_VALUE);
        due(x.info(0, -1, 3), made + 1);
        due(x.close(0, 0), OK);
        due(x.make(0, PORT), 0);
        due(x.info(0, 0, 1), made + 1);
        HandleKernel y = Scenes.crowded(2);
        due(y.info(0, -1, 0), 14);
        due(y.make(0, CHANNEL), 16);
        due(y.info(0, -1, 0), 16);
    }

    private static void promise2SlotsAreNew() {
        Check.part("promise 2, new objects after destroyed ones");
        HandleKernel x = new HandleKernel();
        due(x.make(0, MEMORY), 0);
        for (int cell = 0; cell < 8; cell++) {
            due(x.store(0, 0, cell, 7), OK);
        }
        due(x.close(0, 0), OK);
        due(x.make(0, MEMORY), 0);
        for (int cell = 0; cell < 8; cell++) {
            due(x.load(0, 0, cell), 0);
        }
        due(x.close(0, 0), OK);
        due(x.make(0, EVENT), 0);
        due(x.signal(0, 0, 1, true), 2);
        due(x.make(0, PORT), 1);
        due(x.watch(0, 0, 1, 2, 5), OK);
        due(x.packet(0, 1, 3), 1);
        due(x.close(0, 1), OK);
        due(x.close(0, 0), OK);
        due(x.make(0, PORT), 0);
        due(x.make(0, PORT), 1);
        for (int port = 0; port < 2; port++) {
            due(x.packet(0, port, 3), 0);
            due(x.info(0, port, 3), 0);
        }
        due(x.close(0, 0), OK);
        due(x.close(0, 1), OK);
        due(x.make(0, CHANNEL), 16);
        due(x.send(0, 0, 1, -1, -1), OK);
        due(x.send(0, 1, 1, -1, -1), OK);
        due(x.close(0, 0), OK);
        due(x.close(0, 1), OK);
        due(x.make(0, CHANNEL), 16);
        due(x.info(0, 0, 3), 0);
        due(x.info(0, 1, 3), 0);
        due(x.receive(0, 0), EMPTY);
        due(x.receive(0, 1), EMPTY);
        due(x.info(0, 0, 5), 9);
        due(x.info(0, 1, 5), 8);
    }

    private static void promise2AllSixteen() {
        Check.part("promise 2, the fifteenth and sixteenth object");
        HandleKernel x = Scenes.crowded(2);
        due(x.make(0, CHANNEL), 16);
        for (int v = 1; v <= 4; v++) {
            due(x.send(0, 0, v, -1, -1), OK);
        }
        for (int v = 1; v <= 4; v++) {
            due(x.receive(0, 1), 0);
            due(x.got(0, 0), v);
        }
        due(x.receive(0, 1), EMPTY);
        due(x.close(0, 0), OK);
        due(x.close(0, 1), OK);
        due(x.make(0, EVENT), 0);
        due(x.make(0, PORT), 1);
        due(x.signal(0, 0, 0, true), 1);
        for (int key = 1; key <= 6; key++) {
            due(x.watch(0, 0, 1, 1, key), OK);
        }
        for (int key = 1; key <= 6; key++) {
            due(x.packet(0, 1, 0), key);
        }
        due(x.close(0, 0), OK);
        due(x.close(0, 1), OK);
        due(x.make(0, MEMORY), 0);
        due(x.store(0, 0, 7, 4), OK);
        due(x.twin(0, 0), 1);
        due(x.load(0, 1, 7), 4);
    }

    private static void promise3() {
        Check.part("promise 3");
        HandleKernel x = new HandleKernel();
        x.make(0, EVENT);
        due(x.copy(0, 0, ALL), 1);
        due(x.info(0, 1, 1), 0);
        due(x.info(0, 1, 2), ALL);
        due(x.info(0, 0, 4), 2);
        due(x.copy(0, 0, READ | COPY), 2);
        due(x.info(0, 2, 2), READ | COPY);
        due(x.copy(0, 2, WRITE | COPY | SEND), 3);
        due(x.info(0, 3, 2), COPY);
        due(x.info(0, 0, 2), ALL);
        due(x.copy(0, 0, -1), 4);
        due(x.info(0, 4, 2), ALL);
        due(x.copy(0, 0, 64 + WATCH), 5);
        due(x.info(0, 5, 2), WATCH);
        due(x.copy(0, 5, ALL), NO_RIGHT);
        due(x.copy(0, 0, 64), 6);
        due(x.info(0, 6, 2), 0);
        due(x.copy(0, 6, 0), NO_RIGHT);
        due(x.info(0, 0, 4), 7);
        due(x.close(0, 1), OK);
        due(x.copy(0, 0, LEAST), 1);
        due(x.info(0, 1, 2), 0);
        due(x.restrict(0, 0, ALL - COPY), ALL - COPY);
        due(x.copy(0, 0, ALL), NO_RIGHT);
        for (int handle : NO_HANDLES) {
            due(x.copy(0, handle, ALL), BAD_HANDLE);
        }
        for (int process : NOT_RUNNING) {
            due(x.copy(process, 0, ALL), NO_PROCESS);
        }
        due(x.copy(0, 4, COPY), 7);
        due(x.copy(0, 4, COPY), 8);
        due(x.copy(0, 4, COPY), 9);
        due(x.copy(0, 4, COPY), NO_ROOM);
        due(x.copy(0, 0, COPY), NO_RIGHT);
        due(x.info(0, 0, 4), 10);
        due(x.info(0, -1, 0), 1);
    }

    private static void promise4() {
        Check.part("promise 4");
        HandleKernel x = new HandleKernel();
        x.make(0, EVENT);
        x.copy(0, 0, ALL);
        due(x.restrict(0, 0, -1), ALL);
        due(x.restrict(0, 0, 64 + ALL - READ), ALL - READ);
        due(x.restrict(0, 0, READ | WRITE | COPY), WRITE | COPY);
        due(x.info(0, 0, 2), WRITE | COPY);
        due(x.info(0, 1, 2), ALL);
        due(x.restrict(0, 0, ALL), WRITE | COPY);
        due(x.restrict(0, 0, 64), 0);
        due(x.info(0, 0, 2), 0);
        due(x.restrict(0, 0, ALL), 0);
        due(x.info(0, 0, 4), 2);
        due(x.signal(0, 0, 0, true), NO_RIGHT);
        for (int handle : NO_HANDLES) {
            due(x.restrict(0, handle, 0), BAD_HANDLE);
        }
        for (int process : NOT_RUNNING) {
            due(x.restrict(process, 1, 0), NO_PROCESS);
        }
        due(x.info(0, 1, 2), ALL);
    }

    private static void promise5() {
        Check.part("promise 5");
        HandleKernel x = new HandleKernel();
        x.make(0, EVENT);
        x.copy(0, 0, ALL);
        for (int process : NOT_RUNNING) {
            due(x.close(process, 0), NO_PROCESS);
        }
        for (int handle : NO_HANDLES) {
            due(x.close(0, handle), BAD_HANDLE);
        }
        due(x.restrict(0, 0, 0), 0);
        due(x.close(0, 0), OK);
        due(x.close(0, 0), BAD_HANDLE);
        due(x.info(0, 0, 0), BAD_HANDLE);
        due(x.info(0, 1, 4), 1);
        due(x.info(0, 1, 2), ALL);
        due(x.info(0, -1, 0), 1);
        due(x.close(0, 1), OK);
        due(x.info(0, -1, 0), 0);
        due(x.info(0, -1, 3), 1);
        due(x.close(0, 1), BAD_HANDLE);
    }

    private static void promise6() {
        Check.part("promise 6");
        HandleKernel x = new HandleKernel();
        x.make(0, EVENT);
        int signals = 0;
        for (int signal = 0; signal < 8; signal++) {
            signals += 1 << signal;
            due(x.signal(0, 0, signal, true), signals);
        }
        due(x.signal(0, 0, 3, true), 255);
        for (int signal : new int[] {-1, 8, 9, 10, 31, 32, 33, LEAST, MOST}) {
            due(x.signal(0, 0, signal, true), BAD_VALUE);
            due(x.signal(0, 0, signal, false), BAD_VALUE);
        }
        due(x.info(0, 0, 3), 255);
        due(x.signal(0, 0, 7, false), 127);
        due(x.signal(0, 0, 7, false), 127);
        due(x.signal(0, 0, 0, false), 126);
        due(x.info(0, 0, 3), 126);
        x.copy(0, 0, WRITE);
        due(x.signal(0, 1, 1, false), 124);
        due(x.info(0, 0, 3), 124);
        due(x.restrict(0, 0, ALL - WRITE), ALL - WRITE);
        due(x.signal(0, 0, 0, true), NO_RIGHT);
        due(x.signal(0, 0, 8, true), NO_RIGHT);
        x.make(0, CHANNEL);
        x.make(0, MEMORY);
        x.make(0, PORT);
        x.spawn(0, -1);
        for (int handle = 2; handle <= 6; handle++) {
            x.restrict(0, handle, 0);
            due(x.signal(0, handle, 8, true), WRONG_KIND);
            due(x.info(0, handle, 3), 0);
        }
        for (int handle : NO_HANDLES) {
            due(x.signal(0, handle, 0, true), BAD_HANDLE);
        }
        for (int process : new int[] {-1, 2, 3, 4, LEAST, MOST}) {
            due(x.signal(process, 0, 0, true), NO_PROCESS);
        }
    }

    private static void promise7() {
        Check.part("promise 7");
        HandleKernel x = new HandleKernel();
        x.make(0, CHANNEL);
        x.make(0, EVENT);
        x.make(0, MEMORY);
        x.restrict(0, 2, SEND | READ);
        due(x.send(0, 0, LEAST, 2, 3), OK);
        due(x.info(0, 2, 0), BAD_HANDLE);
        due(x.info(0, 3, 0), BAD_HANDLE);
        due(x.info(0, -1, 0), 4);
        due(x.info(0, 1, 3), READABLE);
        due(x.info(0, 0, 3), 0);
        due(x.send(0, 1, 5, -1, -1), OK);
        due(x.info(0, 0, 3), READABLE);
        due(x.send(0, 0, MOST, -1, -1), OK);
        due(x.receive(0, 1), 2);
        due(x.got(0, 0), LEAST);
        due(x.got(0, 1), 2);
        due(x.got(0, 2), 3);
        due(x.info(0, 2, 0), EVENT);
        due(x.info(0, 2, 2), SEND | READ);
        due(x.info(0, 3, 0), MEMORY);
        due(x.info(0, 3, 2), ALL);
        due(x.info(0, 1, 3), READABLE);
        due(x.receive(0, 1), 0);
        due(x.got(0, 0), MOST);
        due(x.info(0, 1, 3), 0);
        due(x.send(0, 0, 1, -1, 3), OK);
        due(x.info(0, 3, 0), BAD_HANDLE);
        due(x.send(0, 0, 2, 2, -1), OK);
        due(x.info(0, 2, 0), BAD_HANDLE);
        due(x.send(0, 0, 3, -1, -1), OK);
        due(x.send(0, 0, 4, -1, -1), OK);
        due(x.send(0, 0, 5, -1, -1), FULL);
        due(x.send(0, 1, 6, -1, -1), OK);
        due(x.make(0, EVENT), 2);
        due(x.send(0, 0, 5, 2, -1), FULL);
        due(x.info(0, 2, 0), EVENT);
        due(x.send(0, 0, 5, 2, 2), BAD_VALUE);
        due(x.receive(0, 1), 1);
        due(x.got(0, 0), 1);
        due(x.send(0, 0, 5, 2, -1), OK);
        due(x.close(0, 1), OK);
        due(x.info(0, -1, 0), 2);
        due(x.send(0, 0, 5, -1, -1), CLOSED);
        due(x.send(0, 0, 5, 3, -1), CLOSED);
        due(x.send(0, 0, 5, 3, 3), BAD_VALUE);
        due(x.send(0, 0, 5, 0, -1), BAD_VALUE);
        due(x.info(0, 3, 0), MEMORY);
    }

    private static void promise7Tests() {
        Check.part("promise 7, the tests");
        HandleKernel x = new HandleKernel();
        x.make(0, CHANNEL);
        x.make(0, EVENT);
        x.make(0, EVENT);
        x.restrict(0, 3, ALL - SEND);
        for (int process : NOT_RUNNING) {
            due(x.send(process, 0, 1, 2, -1), NO_PROCESS);
        }
        for (int handle : NO_HANDLES) {
            due(x.send(0, handle, 1, 2, 3), BAD_HANDLE);
            if (handle != -1) {
                due(x.send(0, 0, 1, handle, 3), BAD_HANDLE);
                due(x.send(0, 0, 1, handle, handle), BAD_HANDLE);
                due(x.send(0, 0, 1, 2, handle), BAD_HANDLE);
                due(x.send(0, 0, 1, 0, handle), BAD_HANDLE);
            }
        }
        due(x.send(0, 2, 1, 9, 9), WRONG_KIND);
        due(x.send(0, 0, 1, 3, 9), NO_RIGHT);
        due(x.send(0, 0, 1, 3, 3), NO_RIGHT);
        due(x.send(0, 0, 1, 2, 3), NO_RIGHT);
        due(x.send(0, 0, 1, 3, -1), NO_RIGHT);
        due(x.send(0, 0, 1, -1, 3), NO_RIGHT);
        due(x.send(0, 0, 1, 2, 2), BAD_VALUE);
        due(x.send(0, 0, 1, 0, -1), BAD_VALUE);
        due(x.send(0, 0, 1, -1, 0), BAD_VALUE);
        due(x.send(0, 0, 1, 0, 2), BAD_VALUE);
        due(x.send(0, 0, 1, 2, 0), BAD_VALUE);
        due(x.send(0, 0, 1, 0, 0), BAD_VALUE);
        due(x.copy(0, 0, ALL), 4);
        due(x.copy(0, 0, ALL - WRITE), 5);
        due(x.send(0, 5, 1, 9, -1), NO_RIGHT);
        due(x.copy(0, 0, ALL - SEND), 6);
        due(x.send(0, 6, 1, 6, -1), NO_RIGHT);
        due(x.info(0, 1, 3), 0);
        due(x.info(0, 0, 4), 4);
        due(x.send(0, 0, 1, 4, 2), OK);
        due(x.info(0, 0, 4), 4);
        due(x.info(0, 4, 0), BAD_HANDLE);
    }

    private static void promise8() {
        Check.part("promise 8");
        HandleKernel x = new HandleKernel();
        x.make(0, CHANNEL);
        due(x.receive(0, 0), EMPTY);
        x.make(0, EVENT);
        x.make(0, MEMORY);
        x.send(0, 0, 1, 2, 3);
        x.send(0, 0, 2, -1, -1);
        x.make(0, PORT);
        x.send(0, 0, 3, -1, 2);
        due(x.receive(0, 0), EMPTY);
        x.make(0, EVENT);
        Scenes.fillPlaces(x, 2, 1);
        due(x.receive(0, 1), NO_ROOM);
        due(x.got(0, 1), -1);
        due(x.info(0, 1, 3), READABLE);
        due(x.close(0, 4), OK);
        due(x.receive(0, 1), 2);
        due(x.got(0, 0), 1);
        due(x.info(0, 4, 0), EVENT);
        due(x.info(0, 4, 1), 2);
        due(x.info(0, 9, 0), MEMORY);
        due(x.receive(0, 1), 0);
        due(x.got(0, 0), 2);
        due(x.receive(0, 1), NO_ROOM);
        due(x.close(0, 0), OK);
        due(x.info(0, 1, 3), READABLE | PEER_CLOSED);
        due(x.receive(0, 1), 1);
        due(x.got(0, 1), -1);
        due(x.got(0, 2), 0);
        due(x.info(0, 0, 0), PORT);
        due(x.info(0, 1, 3), PEER_CLOSED);
        due(x.receive(0, 1), CLOSED);
        due(x.got(0, 0), 3);
        due(x.restrict(0, 0, 0), 0);
        due(x.receive(0, 0), WRONG_KIND);
        due(x.restrict(0, 1, ALL - READ), ALL - READ);
        due(x.receive(0, 1), NO_RIGHT);
        due(x.close(0, 9), OK);
        for (int handle : NO_HANDLES) {
            due(x.receive(0, handle), BAD_HANDLE);
        }
        for (int process : NOT_RUNNING) {
            due(x.receive(process, 1), NO_PROCESS);
        }
    }

    private static void promise8Rights() {
        Check.part("promise 8, the rights");
        HandleKernel x = new HandleKernel();
        x.make(0, CHANNEL);
        x.make(0, EVENT);
        for (int i = 0; i < 8; i += 2) {
            due(x.copy(0, 2, SEND + i), 3);
            due(x.copy(0, 2, SEND + i + 1), 4);
            due(x.send(0, 0, i, 3, 4), OK);
        }
        for (int i = 0; i < 8; i += 2) {
            due(x.receive(0, 1), 2);
            due(x.info(0, 3, 2), SEND + i);
            due(x.info(0, 4, 2), SEND + i + 1);
            due(x.close(0, 3), OK);
            due(x.close(0, 4), OK);
        }
    }

    private static void promise9() {
        Check.part("promise 9");
        HandleKernel x = new HandleKernel();
        x.make(0, CHANNEL);
        x.make(0, EVENT);
        x.make(0, EVENT);
        x.send(0, 0, 41, 2, 3);
        x.send(0, 0, 42, -1, -1);
        due(x.receive(0, 1), 2);
        for (int times = 0; times < 2; times++) {
            due(x.got(0, 0), 41);
            due(x.got(0, 1), 2);
            due(x.got(0, 2), 3);
        }
        for (int what : new int[] {-1, 3, 4, LEAST, MOST}) {
            due(x.got(0, what), 0);
            due(x.got(7, what), 0);
        }
        for (int process : NOT_RUNNING) {
            due(x.got(process, 0), 0);
            due(x.got(process, 1), -1);
            due(x.got(process, 2), -1);
        }
        due(x.receive(0, 0), EMPTY);
        due(x.receive(0, 9), BAD_HANDLE);
        due(x.got(0, 0), 41);
        due(x.close(0, 2), OK);
        due(x.got(0, 1), 2);
        due(x.spawn(0, 1), 1);
        due(x.got(1, 0), 0);
        due(x.got(1, 1), -1);
        due(x.send(0, 0, 43, -1, 3), OK);
        due(x.receive(1, 0), 0);
        due(x.got(1, 0), 42);
        due(x.got(0, 0), 41);
        due(x.receive(1, 0), 1);
        due(x.got(1, 0), 43);
        due(x.got(1, 1), -1);
        due(x.got(1, 2), 1);
        due(x.got(0, 2), 3);
        // A process that was killed is still one of the processes 0..3: what it got stays until it is spawned again.
        due(x.kill(0, 1), OK);
        due(x.got(1, 0), 43);
        due(x.got(1, 2), 1);
        due(x.close(0, 1), OK);
        due(x.spawn(0, -1), 1);
        due(x.got(1, 0), 0);
        due(x.got(1, 1), -1);
        due(x.got(1, 2), -1);
    }

    private static void promise10() {
        Check.part("promise 10");
        HandleKernel x = new HandleKernel();
        x.make(0, MEMORY);
        x.make(0, EVENT);
        int[] values = {LEAST, -1, 0, 1, MOST, 6, -9, 8};
        for (int cell = 0; cell < 8; cell++) {
            due(x.store(0, 0, cell, values[cell]), OK);
        }
        for (int cell = 0; cell < 8; cell++) {
            due(x.load(0, 0, cell), values[cell]);
        }
        for (int cell : new int[] {-1, 8, 9, LEAST, MOST}) {
            due(x.load(0, 0, cell), LONG_REFUSAL + BAD_VALUE);
            due(x.load(0, 1, cell), LONG_REFUSAL + WRONG_KIND);
        }
        x.copy(0, 0, READ);
        x.copy(0, 0, ALL - READ);
        due(x.load(0, 2, 4), MOST);
        due(x.load(0, 3, 4), LONG_REFUSAL + NO_RIGHT);
        due(x.load(0, 3, 8), LONG_REFUSAL + NO_RIGHT);
        due(x.restrict(0, 1, 0), 0);
        due(x.load(0, 1, 4), LONG_REFUSAL + WRONG_KIND);
        for (int handle : NO_HANDLES) {
            due(x.load(0, handle, 0), LONG_REFUSAL + BAD_HANDLE);
        }
        for (int process : NOT_RUNNING) {
            due(x.load(process, 0, 0), LONG_REFUSAL + NO_PROCESS);
        }
    }

    private static void promise11() {
        Check.part("promise 11");
        HandleKernel x = new HandleKernel();
        x.make(0, MEMORY);
        x.make(0, MEMORY);
        x.make(0, EVENT);
        due(x.store(0, 0, 0, 5), OK);
        due(x.store(0, 0, 7, 6), OK);
        due(x.store(0, 1, 0, 7), OK);
        due(x.load(0, 0, 0), 5);
        due(x.load(0, 0, 7), 6);
        due(x.load(0, 1, 0), 7);
        due(x.load(0, 1, 7), 0);
        x.copy(0, 0, WRITE);
        x.copy(0, 0, ALL - WRITE);
        due(x.store(0, 3, 0, 8), OK);
        due(x.load(0, 0, 0), 8);
        due(x.store(0, 4, 0, 9), NO_RIGHT);
        due(x.store(0, 4, 8, 9), NO_RIGHT);
        due(x.load(0, 0, 0), 8);
        for (int cell : new int[] {-1, 8, 9, LEAST, MOST}) {
            due(x.store(0, 0, cell, 1), BAD_VALUE);
            due(x.store(0, 2, cell, 1), WRONG_KIND);
        }
        due(x.restrict(0, 2, 0), 0);
        due(x.store(0, 2, 0, 1), WRONG_KIND);
        for (int handle : NO_HANDLES) {
            due(x.store(0, handle, 0, 1), BAD_HANDLE);
        }
        for (int process : NOT_RUNNING) {
            due(x.store(process, 0, 0, 1), NO_PROCESS);
        }
        due(x.load(0, 0, 0), 8);
        due(x.load(0, 0, 1), 0);
        due(x.load(0, 0, 7), 6);
        due(x.load(0, 1, 0), 7);
    }

    private static void promise12() {
        Check.part("promise 12");
        HandleKernel x = new HandleKernel();
        x.make(0, MEMORY);
        for (int cell = 0; cell < 8; cell++) {
            x.store(0, 0, cell, 10 + cell);
        }
        x.copy(0, 0, READ | COPY);
        due(x.twin(0, 1), 2);
        due(x.info(0, 2, 0), MEMORY);
        due(x.info(0, 2, 1), 1);
        due(x.info(0, 2, 2), ALL);
        due(x.info(0, 2, 4), 1);
        due(x.store(0, 0, 0, 1), OK);
        due(x.store(0, 2, 7, 2), OK);
        for (int cell = 1; cell < 7; cell++) {
            due(x.load(0, 2, cell), 10 + cell);
        }
        due(x.load(0, 2, 0), 10);
        due(x.load(0, 2, 7), 2);
        due(x.load(0, 0, 7), 17);
        due(x.load(0, 1, 0), 1);
        due(x.twin(0, 2), 3);
        due(x.close(0, 2), OK);
        due(x.load(0, 3, 7), 2);
        due(x.copy(0, 0, ALL - READ), 2);
        due(x.twin(0, 2), NO_RIGHT);
        due(x.copy(0, 0, ALL - COPY), 4);
        due(x.twin(0, 4), NO_RIGHT);
        due(x.make(0, PORT), 5);
        due(x.restrict(0, 5, 0), 0);
        due(x.twin(0, 5), WRONG_KIND);
        for (int handle : NO_HANDLES) {
            due(x.twin(0, handle), BAD_HANDLE);
        }
        for (int process : NOT_RUNNING) {
            due(x.twin(process, 0), NO_PROCESS);
        }
        Scenes.fillPlaces(x, 0, 1);
        due(x.twin(0, 0), 9);
        int made = x.info(0, -1, 3);
        due(x.twin(0, 0), NO_ROOM);
        due(x.info(0, -1, 3), made);
        HandleKernel z = new HandleKernel();
        for (int place = 0; place < 3; place++) {
            due(z.make(0, MEMORY), place);
            due(z.store(0, place, 0, 5 + place), OK);
            due(z.store(0, place, 7, 50 + place), OK);
        }
        due(z.close(0, 1), OK);
        due(z.twin(0, 2), 1);
        for (int place = 0; place < 3; place++) {
            due(z.load(0, place, 0), place == 0 ? 5 : 7);
            due(z.load(0, place, 7), place == 0 ? 50 : 52);
        }
        due(z.close(0, 1), OK);
        due(z.twin(0, 0), 1);
        due(z.load(0, 2, 0), 7);
        HandleKernel y = Scenes.crowded(1);
        due(y.make(0, MEMORY), 0);
        due(y.twin(0, 0), FULL);
        Scenes.fillPlaces(y, 0, 0);
        due(y.twin(0, 0), FULL);
        due(y.info(0, -1, 0), 16);
    }

    private static void promise13() {
        Check.part("promise 13");
        HandleKernel x = new HandleKernel();
        x.make(0, PORT);
        x.make(0, EVENT);
        for (int process : NOT_RUNNING) {
            due(x.watch(process, 1, 0, 1, 1), NO_PROCESS);
        }
        for (int handle : NO_HANDLES) {
            due(x.watch(0, handle, 1, 1, 1), BAD_HANDLE);
            due(x.watch(0, 1, handle, 1, 1), BAD_HANDLE);
        }
        due(x.watch(0, 0, 1, 1, 1), WRONG_KIND);
        due(x.copy(0, 1, ALL - WATCH), 2);
        due(x.copy(0, 0, ALL - WRITE), 3);
        due(x.watch(0, 2, 9, 1, 1), NO_RIGHT);
        due(x.watch(0, 2, 3, 1, 1), NO_RIGHT);
        due(x.watch(0, 2, 0, 1, 1), NO_RIGHT);
        due(x.watch(0, 1, 3, 1, 1), NO_RIGHT);
        due(x.restrict(0, 2, 0), 0);
        due(x.watch(0, 1, 2, 1, 1), WRONG_KIND);
        due(x.info(0, -1, 1), 0);
        due(x.copy(0, 1, WATCH), 4);
        due(x.copy(0, 0, WRITE), 5);
        due(x.watch(0, 4, 5, 1, LEAST), OK);
        due(x.info(0, -1, 1), 1);
        due(x.packet(0, 0, 3), 0);
        due(x.info(0, 1, 4), 3);
        due(x.signal(0, 1, 1, true), 2);
        due(x.info(0, -1, 1), 1);
        due(x.signal(0, 1, 0, true), 3);
        due(x.info(0, -1, 1), 0);
        due(x.packet(0, 0, 0), LEAST);
        due(x.watch(0, 1, 0, 6, 4), OK);
        due(x.info(0, -1, 1), 0);
        due(x.packet(0, 0, 2), 3);
        due(x.watch(0, 1, 0, 2048 | 4, 4), OK);
        due(x.watch(0, 1, 0, LEAST, 4), OK);
        due(x.watch(0, 1, 0, 0, 4), OK);
        due(x.info(0, -1, 1), 3);
        due(x.packet(0, 0, 3), 0);
        for (int i = 3; i < 12; i++) {
            due(x.watch(0, 1, 0, 0, i), OK);
        }
        due(x.info(0, -1, 1), 12);
        due(x.watch(0, 1, 0, 0, 12), FULL);
        due(x.watch(0, 1, 0, 1, 12), FULL);
        due(x.watch(0, 1, 1, 1, 12), WRONG_KIND);
        due(x.packet(0, 0, 3), 0);
        due(x.signal(0, 1, 2, true), 7);
        due(x.info(0, -1, 1), 11);
        due(x.watch(0, 1, 0, 1, 12), OK);
        due(x.info(0, -1, 1), 11);
        due(x.packet(0, 0, 3), 2);
    }

    private static void promise14() {
        Check.part("promise 14");
        HandleKernel x = new HandleKernel();
        x.make(0, EVENT);
        x.make(0, PORT);
        due(x.packet(0, 1, 3), 0);
        for (int part = 0; part < 3; part++) {
            due(x.packet(0, 1, part), LONG_REFUSAL + EMPTY);
        }
        x.signal(0, 0, 5, true);
        int[] keys = {LEAST, MOST, -1, 0, 77, 5};
        for (int key : keys) {
            due(x.watch(0, 0, 1, 32, key), OK);
        }
        due(x.info(0, 1, 3), READABLE);
        due(x.packet(0, 1, 3), 6);
        due(x.watch(0, 0, 1, 32, 99), OK);
        due(x.info(0, -1, 1), 0);
        due(x.packet(0, 1, 3), 6);
        due(x.packet(0, 1, 3), 6);
        for (int part : new int[] {-1, 4, 5, LEAST, MOST}) {
            due(x.packet(0, 1, part), LONG_REFUSAL + BAD_VALUE);
        }
        x.signal(0, 0, 5, false);
        x.signal(0, 0, 4, true);
        for (int i = 0; i < 4; i++) {
            due(x.packet(0, 1, 0), keys[i]);
            due(x.packet(0, 1, 3), 5 - i);
        }
        due(x.packet(0, 1, 1), 0);
        due(x.info(0, 1, 3), READABLE);
        due(x.packet(0, 1, 2), 32);
        due(x.info(0, 1, 3), 0);
        due(x.packet(0, 1, 0), LONG_REFUSAL + EMPTY);
        due(x.packet(0, 1, 4), LONG_REFUSAL + BAD_VALUE);
        due(x.packet(0, 0, 0), LONG_REFUSAL + WRONG_KIND);
        due(x.packet(0, 0, 3), LONG_REFUSAL + WRONG_KIND);
        for (int handle : NO_HANDLES) {
            due(x.packet(0, handle, 3), LONG_REFUSAL + BAD_HANDLE);
        }
        for (int process : NOT_RUNNING) {
            due(x.packet(process, 1, 3), LONG_REFUSAL + NO_PROCESS);
        }
        due(x.copy(0, 1, READ), 2);
        due(x.watch(0, 0, 1, 16, 3), OK);
        due(x.packet(0, 2, 0), 3);
        due(x.restrict(0, 1, ALL - READ), ALL - READ);
        due(x.packet(0, 1, 3), LONG_REFUSAL + NO_RIGHT);
        due(x.packet(0, 1, 4), LONG_REFUSAL + NO_RIGHT);
        due(x.packet(0, 1, 0), LONG_REFUSAL + NO_RIGHT);
        due(x.restrict(0, 0, 0), 0);
        due(x.packet(0, 0, 0), LONG_REFUSAL + WRONG_KIND);
    }

    private static void promise15() {
        Check.part("promise 15");
        HandleKernel x = new HandleKernel();
        x.make(0, EVENT);
        x.make(0, MEMORY);
        x.make(0, PORT);
        x.restrict(0, 1, SEND | READ);
        due(x.spawn(0, 1), 1);
        due(x.info(0, 1, 0), PROCESS);
        due(x.info(0, 1, 1), 3);
        due(x.info(0, 1, 2), ALL);
        due(x.info(0, 1, 3), 0);
        due(x.info(0, 1, 4), 1);
        due(x.info(0, 1, 5), -1);
        due(x.info(0, -1, 2), 3);
        due(x.info(1, 0, 0), MEMORY);
        due(x.info(1, 0, 1), 1);
        due(x.info(1, 0, 2), SEND | READ);
        due(x.info(1, 0, 4), 1);
        for (int place = 1; place < 10; place++) {
            due(x.info(1, place, 0), BAD_HANDLE);
        }
        due(x.close(0, 0), OK);
        due(x.spawn(0, 2), 0);
        due(x.info(0, 2, 0), BAD_HANDLE);
        due(x.info(2, 0, 0), PORT);
        due(x.spawn(2, -1), 1);
        due(x.info(3, 0, 0), BAD_HANDLE);
        due(x.info(0, -1, 2), 15);
        due(x.spawn(0, -1), BAD_VALUE);
        due(x.kill(0, 1), OK);
        due(x.spawn(0, -1), BAD_VALUE);
        due(x.kill(2, 1), OK);
        due(x.close(2, 1), OK);
        due(x.spawn(0, -1), 2);
        due(x.info(0, -1, 2), 13);
        due(x.close(0, 1), OK);
        due(x.spawn(0, -1), 1);
        due(x.info(0, -1, 2), 15);
        due(x.info(1, 0, 0), BAD_HANDLE);
        due(x.close(0, 1), OK);
        due(x.info(0, -1, 2), 15);
        due(x.spawn(0, -1), BAD_VALUE);
        due(x.make(1, EVENT), 0);
        HandleKernel y = new HandleKernel();
        due(y.spawn(0, -1), 0);
        due(y.kill(0, 0), OK);
        due(y.spawn(0, -1), 1);
        due(y.info(0, -1, 2), 5);
    }

    private static void promise15Refusals() {
        Check.part("promise 15, the refusals");
        HandleKernel x = new HandleKernel();
        x.make(0, EVENT);
        x.make(0, EVENT);
        x.restrict(0, 1, ALL - SEND);
        for (int process : NOT_RUNNING) {
            due(x.spawn(process, 0), NO_PROCESS);
            due(x.spawn(process, -1), NO_PROCESS);
        }
        for (int handle : NO_HANDLES) {
            if (handle != -1) {
                due(x.spawn(0, handle), BAD_HANDLE);
            }
        }
        due(x.spawn(0, 1), NO_RIGHT);
        due(x.info(0, -1, 2), 1);
        due(x.info(0, -1, 3), 2);
        Scenes.fillPlaces(x, 0, 0);
        due(x.spawn(0, -1), NO_ROOM);
        due(x.info(0, -1, 2), 1);
        due(x.info(0, -1, 3), 2);
        due(x.spawn(0, 4), 4);
        due(x.info(0, 4, 0), PROCESS);
        due(x.info(1, 0, 0), EVENT);
        due(x.spawn(0, 5), 5);
        due(x.spawn(0, 6), 6);
        due(x.spawn(0, 1), NO_RIGHT);
        due(x.spawn(0, 7), BAD_VALUE);
        due(x.spawn(0, -1), BAD_VALUE);
        due(x.info(0, 7, 0), EVENT);
        HandleKernel y = Scenes.crowded(1);
        due(y.make(0, EVENT), 0);
        due(y.spawn(0, -1), FULL);
        due(y.spawn(0, 0), FULL);
        due(y.spawn(1, -1), FULL);
        due(y.info(0, 0, 0), EVENT);
        due(y.info(0, -1, 2), 3);
        due(y.close(0, 0), OK);
        due(y.spawn(1, -1), NO_ROOM);
        due(y.spawn(0, -1), 0);
        due(y.info(0, -1, 0), 16);
        due(y.spawn(0, -1), FULL);
    }

    private static void promise16() {
        Check.part("promise 16");
        HandleKernel x = new HandleKernel();
        x.make(0, EVENT);
        x.copy(0, 0, ALL);
        due(x.spawn(0, 1), 1);
        due(x.make(1, MEMORY), 1);
        due(x.info(0, 0, 4), 2);
        due(x.info(0, -1, 0), 3);
        due(x.copy(0, 1, ALL - MANAGE), 2);
        due(x.kill(0, 2), NO_RIGHT);
        due(x.copy(0, 1, MANAGE), 3);
        due(x.restrict(0, 0, 0), 0);
        due(x.kill(0, 0), WRONG_KIND);
        for (int handle : NO_HANDLES) {
            due(x.kill(0, handle), BAD_HANDLE);
        }
        for (int process : new int[] {-1, 2, 3, 4, LEAST, MOST}) {
            due(x.kill(process, 1), NO_PROCESS);
        }
        due(x.info(0, 1, 3), 0);
        due(x.kill(0, 3), OK);
        due(x.info(0, 1, 3), DEAD);
        due(x.info(0, -1, 2), 1);
        due(x.info(0, 0, 4), 1);
        due(x.info(0, -1, 0), 2);
        due(x.make(1, EVENT), NO_PROCESS);
        due(x.info(1, -1, 0), NO_PROCESS);
        due(x.kill(0, 1), EMPTY);
        due(x.kill(0, 2), NO_RIGHT);
        due(x.info(0, 1, 3), DEAD);

        HandleKernel y = new HandleKernel();
        y.make(0, CHANNEL);
        due(y.spawn(0, 1), 1);
        due(y.copy(0, 1, ALL), 2);
        due(y.send(0, 0, 1, 2, -1), OK);
        due(y.receive(1, 0), 1);
        due(y.kill(1, 1), OK);
        due(y.make(1, EVENT), NO_PROCESS);
        due(y.info(0, 1, 3), DEAD);
        due(y.info(0, 1, 4), 1);
        due(y.info(0, 0, 3), PEER_CLOSED);
        due(y.info(0, -1, 0), 2);
    }

    private static void promise17() {
        Check.part("promise 17");
        HandleKernel x = new HandleKernel();
        x.make(0, CHANNEL);
        x.make(0, EVENT);
        x.copy(0, 2, SEND | COPY);
        x.signal(0, 2, 6, true);
        due(x.info(0, 3, 0), EVENT);
        due(x.info(0, 3, 1), 2);
        due(x.info(0, 3, 2), SEND | COPY);
        due(x.info(0, 3, 3), 64);
        due(x.info(0, 3, 4), 2);
        due(x.info(0, 3, 5), -1);
        x.copy(0, 3, ALL);
        x.send(0, 0, 1, 3, 4);
        due(x.info(0, 2, 4), 3);
        due(x.restrict(0, 0, 0), 0);
        due(x.info(0, 0, 5), 1);
        due(x.info(0, 1, 5), 0);
        due(x.close(0, 0), OK);
        due(x.info(0, 1, 5), -1);
        for (int what : new int[] {-1, 6, 7, LEAST, MOST}) {
            due(x.info(0, 1, what), BAD_VALUE);
            due(x.info(0, 9, what), BAD_HANDLE);
            due(x.info(1, 1, what), NO_PROCESS);
        }
        for (int what : new int[] {-1, 4, 5, LEAST, MOST}) {
            due(x.info(0, -1, what), BAD_VALUE);
            due(x.info(1, -1, what), NO_PROCESS);
        }
        for (int handle : NO_HANDLES) {
            if (handle != -1) {
                due(x.info(0, handle, 0), BAD_HANDLE);
            }
        }
        for (int process : NOT_RUNNING) {
            due(x.info(process, 1, 0), NO_PROCESS);
            due(x.info(process, -1, 0), NO_PROCESS);
        }
        due(x.make(0, PORT), 0);
        due(x.watch(0, 2, 0, 1, 1), OK);
        due(x.spawn(0, -1), 3);
        due(x.info(0, -1, 0), 4);
        due(x.info(0, -1, 1), 1);
        due(x.info(0, -1, 2), 3);
        due(x.info(0, -1, 3), 5);
        due(x.info(1, -1, 0), 4);
        due(x.info(1, -1, 3), 5);
        due(x.info(0, 0, 0), PORT);
        due(x.info(0, 1, 0), END);
        due(x.info(0, 3, 0), PROCESS);
    }
}
