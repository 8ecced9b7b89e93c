/** The sentences of the promises that name a boundary case, each with a test of its own. */
public final class PromiseBoundaryTest implements Names {
    private static final int[] NOT_THERE = {-1, 4, 5, LEAST, MOST};

    public static void main(String[] args) {
        promises1And2();
        promises3To6();
        promise7();
        promises8And9();
        promises10To12();
        promises13And14();
        promises15And16();
        promise17();
        Check.end();
    }

    private static void due(long got, long want) {
        Check.due(got, want);
    }

    private static void promises1And2() {
        process0AloneNoObjects();
        eachKindAndItsPlace();
        cellsAre0();
        newPortHasNoPackets();
        placesOfAChannel();
        otherKinds();
        tooManyObjects();
        placesLackForMake();
    }

    private static void process0AloneNoObjects() {
        Check.part("1: Process 0 alone, no objects.");
        HandleKernel x = new HandleKernel();
        int[] all = {0, 0, 1, 0};
        for (int what = 0; what < 4; what++) {
            due(x.info(0, -1, what), all[what]);
        }
        for (int place = 0; place < 10; place++) {
            due(x.info(0, place, 0), BAD_HANDLE);
        }
        for (int process = 1; process < 4; process++) {
            due(x.info(process, -1, 2), NO_PROCESS);
            due(x.info(process, 0, 0), NO_PROCESS);
        }
        // Objects of the class share nothing.
        HandleKernel y = new HandleKernel();
        due(y.spawn(0, -1), 0);
        due(x.info(0, -1, 0), 0);
        due(x.info(0, -1, 2), 1);
    }

    private static void eachKindAndItsPlace() {
        Check.part("2: Makes an EVENT, MEMORY (cells 0) or PORT (kind 0, 2, 3), or the two ends of a channel (1)");
        int[] kinds = {EVENT, MEMORY, PORT};
        for (int kind : kinds) {
            HandleKernel x = new HandleKernel();
            for (int place = 0; place < 10; place++) {
                due(x.make(0, kind), place);
                due(x.info(0, place, 0), kind);
                due(x.info(0, place, 5), -1);
                due(x.info(0, -1, 0), place + 1);
            }
        }
        HandleKernel x = new HandleKernel();
        for (int place = 0; place < 10; place += 2) {
            due(x.make(0, CHANNEL), 16 * (place + 1) + place);
            for (int end = place; end < place + 2; end++) {
                due(x.info(0, end, 0), END);
                due(x.info(0, end, 1), end);
                due(x.info(0, end, 5), 2 * place + 1 - end);
            }
        }
    }

    private static void cellsAre0() {
        Check.part("2: MEMORY (cells 0)");
        HandleKernel x = new HandleKernel();
        for (int round = 0; round < 3; round++) {
            due(x.make(0, MEMORY), 0);
            for (int cell = 0; cell < 8; cell++) {
                due(x.load(0, 0, cell), 0);
                due(x.store(0, 0, cell, -1 - cell), OK);
            }
            due(x.close(0, 0), OK);
        }
    }

    private static void newPortHasNoPackets() {
        Check.part("2: Makes an EVENT, MEMORY (cells 0) or PORT (without the packets of another one)");
        HandleKernel x = new HandleKernel();
        due(x.make(0, EVENT), 0);
        due(x.signal(0, 0, 0, true), 1);
        for (int packets = 1; packets < 7; packets++) {
            due(x.make(0, PORT), 1);
            due(x.info(0, 1, 3), 0);
            due(x.packet(0, 1, 3), 0);
            for (int key = 0; key < packets; key++) {
                due(x.watch(0, 0, 1, 1, key), OK);
            }
            due(x.packet(0, 1, 3), packets);
            due(x.close(0, 1), OK);
        }
        due(x.make(0, EVENT), 1);
        due(x.info(0, 1, 3), 0);
    }

    private static void placesOfAChannel() {
        Check.part("2: for a channel 16 times that of the second end's plus that of the first one's");
        HandleKernel x = new HandleKernel();
        due(x.make(0, EVENT), 0);
        Scenes.fillPlaces(x, 0, 0);
        for (int first = 1; first < 9; first++) {
            for (int second = first + 1; second < 10; second += 4) {
                due(x.close(0, second), OK);
                due(x.close(0, first), OK);
                due(x.make(0, CHANNEL), 16 * second + first);
                due(x.info(0, second, 1), x.info(0, first, 1) + 1);
            }
        }
        due(x.close(0, 8), OK);
        due(x.close(0, 9), OK);
        due(x.make(0, CHANNEL), 152);
        due(x.close(0, 0), OK);
        due(x.close(0, 1), OK);
        due(x.make(0, CHANNEL), 16);
    }

    private static void otherKinds() {
        Check.part("2: BAD_VALUE for other kinds");
        HandleKernel x = new HandleKernel();
        for (int kind : new int[] {-1, 4, 5, 16, 256, LEAST, MOST}) {
            due(x.make(0, kind), BAD_VALUE);
        }
        due(x.info(0, -1, 3), 0);
        due(x.make(0, PORT), 0);
    }

    private static void tooManyObjects() {
        Check.part("2: FULL if there are too many objects");
        int[] kinds = {EVENT, MEMORY, PORT};
        for (int kind : kinds) {
            HandleKernel x = Scenes.crowded(1);
            due(x.make(0, kind), 0);
            due(x.make(0, kind), FULL);
            due(x.close(0, 0), OK);
            due(x.make(0, kind), 0);
        }
        // A channel is two objects, and neither is made where only one could be.
        HandleKernel x = Scenes.crowded(2);
        due(x.make(0, EVENT), 0);
        due(x.make(0, CHANNEL), FULL);
        due(x.info(0, -1, 0), 15);
        due(x.close(0, 0), OK);
        due(x.make(0, CHANNEL), 16);
        due(x.make(0, CHANNEL), FULL);
        due(x.info(0, -1, 0), 16);
    }

    private static void placesLackForMake() {
        Check.part("2: NO_ROOM if places lack");
        HandleKernel x = new HandleKernel();
        due(x.make(0, EVENT), 0);
        Scenes.fillPlaces(x, 0, 2);
        due(x.make(0, CHANNEL), 16 * 9 + 8);
        for (int kind = 0; kind < 4; kind++) {
            due(x.make(0, kind), NO_ROOM);
        }
        due(x.close(0, 4), OK);
        due(x.make(0, CHANNEL), NO_ROOM);
        due(x.make(0, MEMORY), 4);
        due(x.make(0, MEMORY), NO_ROOM);
        due(x.info(0, -1, 3), 4);
        // The places of the other processes do not matter.
        due(x.spawn(0, 0), 0);
        due(x.make(1, CHANNEL), 16 * 2 + 1);
    }

    private static void promises3To6() {
        rightsOfACopy();
        copyIsNeeded();
        placesLackForCopy();
        rightsThatAreInBoth();
        closedHandleIsNoMore();
        setsOrTakesAway();
        otherSignals();
    }

    private static void rightsOfACopy() {
        Check.part("3: with those rights that the first one has .. and rights & 63 name");
        HandleKernel x = new HandleKernel();
        due(x.make(0, EVENT), 0);
        int[] named = {0, 1, 32, 63, 64, 65, 127, 128, -1, -64, LEAST, MOST};
        for (int first : new int[] {ALL, ALL - READ, COPY | SEND, COPY}) {
            due(x.restrict(0, 0, first), first);
            for (int rights : named) {
                due(x.copy(0, 0, rights), 1);
                due(x.info(0, 1, 2), first & rights & 63);
                due(x.info(0, 0, 2), first);
                due(x.close(0, 1), OK);
            }
        }
    }

    private static void copyIsNeeded() {
        Check.part("3: (COPY is needed)");
        HandleKernel x = new HandleKernel();
        due(x.make(0, EVENT), 0);
        due(x.copy(0, 0, ALL - COPY), 1);
        due(x.copy(0, 1, ALL), NO_RIGHT);
        due(x.copy(0, 1, 0), NO_RIGHT);
        due(x.copy(0, 0, COPY), 2);
        due(x.copy(0, 2, ALL), 3);
        due(x.info(0, 3, 2), COPY);
        due(x.info(0, 0, 4), 4);
    }

    private static void placesLackForCopy() {
        Check.part("3: NO_ROOM.");
        HandleKernel x = new HandleKernel();
        due(x.make(0, EVENT), 0);
        for (int place = 1; place < 10; place++) {
            due(x.copy(0, 0, ALL), place);
        }
        due(x.copy(0, 9, ALL), NO_ROOM);
        due(x.info(0, 0, 4), 10);
        due(x.close(0, 0), OK);
        due(x.copy(0, 9, ALL), 0);
        // Copies make no object: 16 objects are no hindrance.
        HandleKernel y = Scenes.crowded(1);
        due(y.make(0, EVENT), 0);
        due(y.copy(0, 0, ALL), 1);
    }

    private static void rightsThatAreInBoth() {
        Check.part("4: The handle's rights become those that are in rights & 63 too: what they are then.");
        for (int named : new int[] {0, 1, 32, 63, 64, 127, -1, -64, LEAST, MOST}) {
            HandleKernel x = new HandleKernel();
            due(x.make(0, EVENT), 0);
            due(x.copy(0, 0, ALL), 1);
            due(x.restrict(0, 0, named), named & 63);
            due(x.info(0, 0, 2), named & 63);
            due(x.restrict(0, 0, ALL), named & 63);
            due(x.restrict(0, 0, COPY | MANAGE), named & (COPY | MANAGE));
            due(x.restrict(0, 0, 0), 0);
            due(x.restrict(0, 0, -1), 0);
            due(x.info(0, 1, 2), ALL);
            due(x.info(0, 0, 4), 2);
        }
    }

    private static void closedHandleIsNoMore() {
        Check.part("5: The handle is no more: OK.");
        HandleKernel x = new HandleKernel();
        due(x.make(0, EVENT), 0);
        Scenes.fillPlaces(x, 0, 0);
        due(x.restrict(0, 9, 0), 0);
        for (int place = 9; place >= 0; place--) {
            due(x.info(0, -1, 0), 1);
            due(x.close(0, place), OK);
            due(x.close(0, place), BAD_HANDLE);
            due(x.info(0, place, 4), BAD_HANDLE);
            due(x.info(0, 0, 4), place > 0 ? place : BAD_HANDLE);
        }
        due(x.info(0, -1, 0), 0);
        due(x.info(0, -1, 3), 1);
    }

    private static void setsOrTakesAway() {
        Check.part("6: Sets (on) or takes away a signal 0..7 of an EVENT (WRITE): its signals then.");
        HandleKernel x = new HandleKernel();
        due(x.make(0, EVENT), 0);
        due(x.make(0, EVENT), 1);
        for (int signal = 0; signal < 8; signal++) {
            due(x.signal(0, 0, signal, false), (1 << signal) - 1);
            due(x.signal(0, 0, signal, true), (2 << signal) - 1);
            due(x.signal(0, 0, signal, true), (2 << signal) - 1);
        }
        for (int signal = 0; signal < 8; signal++) {
            due(x.signal(0, 0, signal, false), 255 - ((2 << signal) - 1));
            due(x.signal(0, 0, signal, false), 255 - ((2 << signal) - 1));
        }
        due(x.info(0, 1, 3), 0);
        // A watch ends by a signal that is set, and leaves it set.
        due(x.make(0, PORT), 2);
        due(x.watch(0, 1, 2, 2, 5), OK);
        due(x.signal(0, 1, 1, true), 2);
        due(x.info(0, 1, 3), 2);
    }

    private static void otherSignals() {
        Check.part("6: BAD_VALUE for another signal.");
        HandleKernel x = new HandleKernel();
        due(x.make(0, EVENT), 0);
        due(x.signal(0, 0, 2, true), 4);
        for (int signal : new int[] {-1, 8, 9, 10, 32, 34, -30, LEAST, MOST}) {
            due(x.signal(0, 0, signal, true), BAD_VALUE);
            due(x.signal(0, 0, signal, false), BAD_VALUE);
            due(x.info(0, 0, 3), 4);
        }
    }

    private static void promise7() {
        ifTheyAreNotMinus1();
        behindThoseThatWait();
        handlesGoIntoTheMessage();
        handlesOfFourMessages();
        aAndBNeedSend();
        theSameHandleTwice();
        peerIsDestroyed();
        fourMessagesWait();
    }

    private static void ifTheyAreNotMinus1() {
        Check.part("7: the handles at places a and b, if they are not -1");
        HandleKernel x = new HandleKernel();
        x.make(0, CHANNEL);
        x.make(0, EVENT);
        int[][] carried = {{-1, -1}, {2, -1}, {-1, 2}};
        for (int[] ab : carried) {
            due(x.send(0, 0, 1, ab[0], ab[1]), OK);
            due(x.receive(0, 1), ab[0] + ab[1] == -2 ? 0 : 1);
            due(x.got(0, 1), ab[0]);
            due(x.got(0, 2), ab[1]);
        }
        for (int place : new int[] {-2, 3, 10, LEAST, MOST}) {
            due(x.send(0, 0, 1, place, -1), BAD_HANDLE);
            due(x.send(0, 0, 1, -1, place), BAD_HANDLE);
        }
        due(x.receive(0, 1), EMPTY);
    }

    private static void behindThoseThatWait() {
        Check.part("7: Puts a message with value v .. behind those that wait for the peer of an END");
        HandleKernel x = new HandleKernel();
        x.make(0, CHANNEL);
        int sent = 0;
        int received = 0;
        // The number of those that wait goes up and down between 0 and 4, both ways at once.
        for (int round = 0; round < 40; round++) {
            int sends = 1 + round % 4;
            for (int i = 0; i < sends && sent - received < 4; i++) {
                due(x.send(0, 0, value(sent), -1, -1), OK);
                sent++;
            }
            due(x.send(0, 1, -round, -1, -1), OK);
            for (int i = 0; i < 1 + round % 3 && received < sent; i++) {
                due(x.receive(0, 1), 0);
                due(x.got(0, 0), value(received));
                received++;
            }
            due(x.receive(0, 0), 0);
            due(x.got(0, 0), -round);
        }
    }

    private static int value(int i) {
        return LEAST + 99999989 * i;
    }

    private static void handlesGoIntoTheMessage() {
        Check.part("7: the handles leave their places and go, with their rights, into the message");
        HandleKernel x = new HandleKernel();
        x.make(0, CHANNEL);
        x.make(0, EVENT);
        x.make(0, MEMORY);
        due(x.restrict(0, 2, SEND), SEND);
        due(x.copy(0, 3, ALL - COPY), 4);
        due(x.send(0, 0, 1, 2, 4), OK);
        due(x.info(0, 2, 0), BAD_HANDLE);
        due(x.info(0, 4, 0), BAD_HANDLE);
        due(x.info(0, 3, 4), 2);
        due(x.make(0, PORT), 2);
        due(x.make(0, PORT), 4);
        due(x.receive(0, 1), 2);
        due(x.info(0, 5, 1), 2);
        due(x.info(0, 5, 2), SEND);
        due(x.info(0, 6, 1), 3);
        due(x.info(0, 6, 2), ALL - COPY);
        // Both ends can go, the one that it is sent by through a copy.
        due(x.copy(0, 0, ALL), 7);
        due(x.send(0, 0, 2, 7, 1), OK);
        due(x.info(0, 0, 4), 2);
        due(x.info(0, 1, 0), BAD_HANDLE);
        due(x.info(0, 0, 5), 1);
    }

    private static void handlesOfFourMessages() {
        Check.part("7: with their rights, into the message (four messages each way)");
        HandleKernel x = new HandleKernel();
        x.make(0, CHANNEL);
        x.make(0, EVENT);
        x.make(0, EVENT);
        for (int i = 0; i < 8; i++) {
            due(x.copy(0, 2, SEND | i), 4);
            due(x.copy(0, 3, SEND | WATCH | i), 5);
            due(x.send(0, i % 2, i, i % 3 == 0 ? -1 : 4, i % 3 == 1 ? -1 : 5), OK);
            due(x.close(0, 4), i % 3 == 0 ? OK : BAD_HANDLE);
            due(x.close(0, 5), i % 3 == 1 ? OK : BAD_HANDLE);
        }
        for (int i = 0; i < 8; i++) {
            due(x.receive(0, 1 - i % 2), i % 3 == 2 ? 2 : 1);
            due(x.got(0, 0), i);
            int a = x.got(0, 1);
            int b = x.got(0, 2);
            due(a, i % 3 == 0 ? -1 : 4);
            due(b, i % 3 == 0 ? 4 : i % 3 == 1 ? -1 : 5);
            if (a != -1) {
                due(x.info(0, a, 1), 2);
                due(x.info(0, a, 2), SEND | i);
                due(x.close(0, a), OK);
            }
            if (b != -1) {
                due(x.info(0, b, 1), 3);
                due(x.info(0, b, 2), SEND | WATCH | i);
                due(x.close(0, b), OK);
            }
        }
    }

    private static void aAndBNeedSend() {
        Check.part("7: a and b need SEND.");
        HandleKernel x = new HandleKernel();
        x.make(0, CHANNEL);
        x.make(0, EVENT);
        due(x.copy(0, 2, ALL - SEND), 3);
        due(x.copy(0, 2, SEND), 4);
        due(x.send(0, 0, 1, 3, -1), NO_RIGHT);
        due(x.send(0, 0, 1, -1, 3), NO_RIGHT);
        due(x.send(0, 0, 1, 4, 3), NO_RIGHT);
        due(x.send(0, 0, 1, 3, 4), NO_RIGHT);
        due(x.info(0, 2, 4), 3);
        // The end itself does not need it.
        due(x.restrict(0, 0, WRITE), WRITE);
        due(x.send(0, 0, 1, 4, 2), OK);
    }

    private static void theSameHandleTwice() {
        Check.part("7: BAD_VALUE if a is b (and not -1), or one of them is handle itself");
        HandleKernel x = new HandleKernel();
        x.make(0, CHANNEL);
        x.make(0, EVENT);
        due(x.copy(0, 2, ALL), 3);
        due(x.send(0, 0, 1, 2, 2), BAD_VALUE);
        due(x.send(0, 0, 1, 0, -1), BAD_VALUE);
        due(x.send(0, 0, 1, -1, 0), BAD_VALUE);
        due(x.send(0, 0, 1, 0, 2), BAD_VALUE);
        due(x.send(0, 0, 1, 2, 0), BAD_VALUE);
        due(x.send(0, 0, 1, 0, 0), BAD_VALUE);
        due(x.send(0, 1, 1, 1, -1), BAD_VALUE);
        due(x.info(0, 1, 3), 0);
        due(x.send(0, 0, 1, -1, -1), OK);
        // Two handles to one object are not the same handle, nor is a second one to the end.
        due(x.send(0, 0, 1, 2, 3), OK);
        due(x.copy(0, 0, ALL), 2);
        due(x.send(0, 0, 1, 2, -1), OK);
    }

    private static void peerIsDestroyed() {
        Check.part("7: CLOSED if the peer is destroyed");
        HandleKernel x = new HandleKernel();
        x.make(0, CHANNEL);
        x.make(0, EVENT);
        due(x.copy(0, 1, 0), 3);
        for (int i = 0; i < 4; i++) {
            due(x.send(0, 0, i, -1, -1), OK);
        }
        due(x.close(0, 1), OK);
        due(x.send(0, 0, 4, -1, -1), FULL);
        due(x.close(0, 3), OK);
        due(x.send(0, 0, 4, -1, -1), CLOSED);
        due(x.send(0, 0, 4, 2, -1), CLOSED);
        due(x.info(0, 2, 0), EVENT);
        // A new end is not the peer, even if it is held where that was.
        due(x.make(0, CHANNEL), 16 * 3 + 1);
        due(x.send(0, 0, 4, -1, -1), CLOSED);
        due(x.info(0, 1, 3), 0);
        due(x.info(0, 3, 3), 0);
    }

    private static void fourMessagesWait() {
        Check.part("7: FULL if 4 messages wait for it.");
        HandleKernel x = new HandleKernel();
        x.make(0, CHANNEL);
        for (int i = 0; i < 4; i++) {
            due(x.send(0, 0, i, -1, -1), OK);
        }
        due(x.send(0, 0, 4, -1, -1), FULL);
        due(x.send(0, 1, 5, -1, -1), OK);
        due(x.receive(0, 1), 0);
        due(x.got(0, 0), 0);
        due(x.send(0, 0, 6, -1, -1), OK);
        due(x.send(0, 0, 7, -1, -1), FULL);
        for (int v : new int[] {1, 2, 3, 6}) {
            due(x.receive(0, 1), 0);
            due(x.got(0, 0), v);
        }
        due(x.receive(0, 1), EMPTY);
    }

    private static void promises8And9() {
        placeOfAFirst();
        emptyOrClosed();
        placesLackForReceive();
        latestReceiveThatWasNotRefused();
        minus1ForNone();
        noReceiveOrNoProcess();
        elseGot0();
    }

    private static void placeOfAFirst() {
        Check.part("8: its handles get places, that of a first: how many it had");
        HandleKernel x = new HandleKernel();
        x.make(0, CHANNEL);
        x.make(0, EVENT);
        x.make(0, MEMORY);
        Scenes.fillPlaces(x, 2, 0);
        due(x.send(0, 0, 1, 3, 2), OK);
        due(x.receive(0, 1), 2);
        due(x.got(0, 1), 2);
        due(x.info(0, 2, 0), MEMORY);
        due(x.got(0, 2), 3);
        due(x.info(0, 3, 0), EVENT);
        due(x.close(0, 9), OK);
        due(x.send(0, 0, 1, -1, 2), OK);
        due(x.receive(0, 1), 1);
        due(x.got(0, 1), -1);
        due(x.got(0, 2), 2);
        due(x.send(0, 0, 1, 2, -1), OK);
        due(x.close(0, 1), OK);
        due(x.info(0, -1, 0), 2);
        HandleKernel y = new HandleKernel();
        y.make(0, CHANNEL);
        due(y.send(0, 0, 1, -1, -1), OK);
        due(y.receive(0, 1), 0);
    }

    private static void emptyOrClosed() {
        Check.part("8: EMPTY if none waits (CLOSED instead, if its peer is destroyed)");
        HandleKernel x = new HandleKernel();
        x.make(0, CHANNEL);
        due(x.receive(0, 0), EMPTY);
        due(x.receive(0, 1), EMPTY);
        due(x.send(0, 0, 5, -1, -1), OK);
        due(x.receive(0, 0), EMPTY);
        due(x.receive(0, 1), 0);
        due(x.receive(0, 1), EMPTY);
        due(x.send(0, 0, 6, -1, -1), OK);
        due(x.send(0, 0, 7, -1, -1), OK);
        due(x.close(0, 0), OK);
        // As long as messages wait they are taken, CLOSED or not.
        due(x.receive(0, 1), 0);
        due(x.got(0, 0), 6);
        due(x.receive(0, 1), 0);
        due(x.got(0, 0), 7);
        due(x.receive(0, 1), CLOSED);
        due(x.receive(0, 1), CLOSED);
    }

    private static void placesLackForReceive() {
        Check.part("8: NO_ROOM if places lack.");
        HandleKernel x = new HandleKernel();
        x.make(0, CHANNEL);
        x.make(0, EVENT);
        due(x.copy(0, 2, ALL), 3);
        due(x.copy(0, 2, ALL), 4);
        due(x.copy(0, 2, ALL), 5);
        due(x.send(0, 0, 1, -1, -1), OK);
        due(x.send(0, 0, 2, 3, -1), OK);
        due(x.send(0, 0, 3, 4, 5), OK);
        Scenes.fillPlaces(x, 2, 0);
        // A message without handles needs no place, one with two needs two.
        due(x.receive(0, 1), 0);
        due(x.receive(0, 1), NO_ROOM);
        due(x.got(0, 0), 1);
        due(x.close(0, 9), OK);
        due(x.receive(0, 1), 1);
        due(x.got(0, 1), 9);
        due(x.receive(0, 1), NO_ROOM);
        due(x.close(0, 8), OK);
        due(x.receive(0, 1), NO_ROOM);
        due(x.got(0, 0), 2);
        due(x.close(0, 3), OK);
        due(x.receive(0, 1), 2);
        due(x.got(0, 1), 3);
        due(x.got(0, 2), 8);
        due(x.got(0, 0), 3);
    }

    private static void latestReceiveThatWasNotRefused() {
        Check.part("9: What the process's latest receive that was not refused got");
        HandleKernel x = new HandleKernel();
        x.make(0, CHANNEL);
        x.make(0, EVENT);
        due(x.copy(0, 1, ALL), 3);
        due(x.spawn(0, 3), 3);
        due(x.send(0, 0, LEAST, 2, -1), OK);
        due(x.send(0, 0, MOST, -1, -1), OK);
        due(x.receive(0, 1), 1);
        due(x.receive(1, 0), 0);
        due(x.receive(0, 1), EMPTY);
        due(x.receive(0, 9), BAD_HANDLE);
        due(x.receive(0, 2), WRONG_KIND);
        due(x.receive(1, 0), EMPTY);
        // What was got is told again and again, wherever the handle is by now.
        for (int round = 0; round < 2; round++) {
            due(x.got(0, 0), LEAST);
            due(x.got(0, 1), 2);
            due(x.got(0, 2), -1);
            due(x.got(1, 0), MOST);
            due(x.got(1, 1), -1);
            due(x.close(0, 2), OK);
            due(x.make(0, EVENT), 2);
        }
        due(x.send(0, 0, 0, -1, 2), OK);
        due(x.receive(0, 1), 1);
        due(x.got(0, 0), 0);
        due(x.got(0, 1), -1);
        due(x.got(0, 2), 2);
        due(x.got(1, 0), MOST);
    }

    private static void minus1ForNone() {
        Check.part("9: 1, 2: the places of the handles (a, b) of the message, -1 for none");
        HandleKernel x = new HandleKernel();
        x.make(0, CHANNEL);
        x.make(0, EVENT);
        x.make(0, EVENT);
        int[][] carried = {{2, 3}, {-1, -1}, {2, -1}, {-1, 2}, {3, 2}, {-1, -1}};
        int[][] places = {{2, 3}, {-1, -1}, {2, -1}, {-1, 2}, {2, 3}, {-1, -1}};
        for (int i = 0; i < carried.length; i++) {
            due(x.send(0, 0, 1, carried[i][0], carried[i][1]), OK);
            Check.holds(x.receive(0, 1) >= 0, "refused");
            due(x.got(0, 1), places[i][0]);
            due(x.got(0, 2), places[i][1]);
        }
    }

    private static void noReceiveOrNoProcess() {
        Check.part("9: 0 (-1 for 1, 2) if there was none or there is no such process");
        HandleKernel x = new HandleKernel();
        x.make(0, CHANNEL);
        due(x.receive(0, 0), EMPTY);
        due(x.spawn(0, -1), 2);
        int[] processes = {0, 1, 2, 3, -1, 4, 5, LEAST, MOST};
        for (int process : processes) {
            due(x.got(process, 0), 0);
            due(x.got(process, 1), -1);
            due(x.got(process, 2), -1);
        }
        // What one process got is told for no other number.
        due(x.send(0, 0, 8, -1, -1), OK);
        due(x.receive(0, 1), 0);
        for (int process : processes) {
            due(x.got(process, 0), process == 0 ? 8 : 0);
        }
    }

    private static void elseGot0() {
        Check.part("9: else 0");
        HandleKernel x = new HandleKernel();
        x.make(0, CHANNEL);
        x.make(0, EVENT);
        due(x.send(0, 0, 8, 2, -1), OK);
        due(x.receive(0, 1), 1);
        for (int what : new int[] {-1, 3, 4, 10, LEAST, MOST}) {
            due(x.got(0, what), 0);
            due(x.got(1, what), 0);
            due(x.got(4, what), 0);
            due(x.got(-1, what), 0);
        }
    }

    private static void promises10To12() {
        aCellAsALong();
        refusalOfLoad();
        otherCellsOfStore();
        cellsAsTheyAreNow();
        readAndCopy();
        tooManyObjectsForTwin();
        placesLackForTwin();
    }

    private static void aCellAsALong() {
        Check.part("10: A cell (0..7) of MEMORY (READ), as a long");
        HandleKernel x = new HandleKernel();
        due(x.make(0, MEMORY), 0);
        int[] values = {LEAST, MOST, -1, 0, 1, -9, LEAST + 1, 1410065408};
        for (int cell = 0; cell < 8; cell++) {
            due(x.store(0, 0, cell, values[cell]), OK);
        }
        due(x.restrict(0, 0, READ), READ);
        for (int cell = 0; cell < 8; cell++) {
            due(x.load(0, 0, cell), values[cell]);
        }
    }

    private static void refusalOfLoad() {
        Check.part("10: else the refusal minus 10000000000 (BAD_VALUE for another cell)");
        HandleKernel x = Scenes.oneOfEach();
        due(x.copy(0, 3, ALL - READ), 6);
        for (int cell : new int[] {-1, 8, 9, LEAST, MOST}) {
            due(x.load(0, 3, cell), -10000000009L);
        }
        due(x.load(4, 3, 0), -10000000001L);
        due(x.load(0, 10, 0), -10000000002L);
        due(x.load(0, -1, 0), -10000000002L);
        due(x.load(0, 2, 0), -10000000003L);
        due(x.load(0, 6, 0), -10000000004L);
    }

    private static void otherCellsOfStore() {
        Check.part("11: Sets a cell of MEMORY (WRITE): OK. BAD_VALUE for another cell.");
        HandleKernel x = new HandleKernel();
        for (int place = 0; place < 3; place++) {
            due(x.make(0, MEMORY), place);
        }
        due(x.store(0, 1, 0, 5), OK);
        due(x.store(0, 1, 7, LEAST), OK);
        for (int cell : new int[] {-1, 8, 9, -8, LEAST, MOST}) {
            due(x.store(0, 1, cell, 6), BAD_VALUE);
        }
        for (int place = 0; place < 3; place++) {
            for (int cell = 0; cell < 8; cell++) {
                int there = cell == 0 ? 5 : cell == 7 ? LEAST : 0;
                due(x.load(0, place, cell), place == 1 ? there : 0);
            }
        }
        due(x.store(0, 1, 7, 0), OK);
        due(x.load(0, 1, 7), 0);
    }

    private static void cellsAsTheyAreNow() {
        Check.part("12: New MEMORY with the cells as they are now");
        HandleKernel x = new HandleKernel();
        due(x.make(0, MEMORY), 0);
        for (int cell = 0; cell < 8; cell++) {
            due(x.store(0, 0, cell, 10 + cell), OK);
        }
        due(x.twin(0, 0), 1);
        due(x.twin(0, 1), 2);
        for (int place = 0; place < 3; place++) {
            due(x.store(0, place, place, -1), OK);
        }
        due(x.store(0, 0, 7, -2), OK);
        due(x.store(0, 2, 6, -3), OK);
        due(x.twin(0, 0), 3);
        due(x.close(0, 0), OK);
        int[][] cells = {{}, {10, -1, 12, 13, 14, 15, 16, 17}, {10, 11, -1, 13, 14, 15, -3, 17}, {-1, 11, 12, 13, 14, 15, 16, -2}};
        for (int place = 1; place < 4; place++) {
            due(x.info(0, place, 1), place);
            due(x.info(0, place, 4), 1);
            for (int cell = 0; cell < 8; cell++) {
                due(x.load(0, place, cell), cells[place][cell]);
            }
        }
    }

    private static void readAndCopy() {
        Check.part("12: (READ and COPY): its handle's place.");
        HandleKernel x = new HandleKernel();
        due(x.make(0, MEMORY), 0);
        due(x.copy(0, 0, ALL - READ), 1);
        due(x.copy(0, 0, ALL - COPY), 2);
        due(x.copy(0, 0, ALL - READ - COPY), 3);
        due(x.copy(0, 0, READ | COPY), 4);
        for (int place = 1; place < 4; place++) {
            due(x.twin(0, place), NO_RIGHT);
        }
        due(x.twin(0, 4), 5);
        due(x.info(0, 5, 2), ALL);
        due(x.info(0, -1, 0), 2);
    }

    private static void tooManyObjectsForTwin() {
        Check.part("12: FULL");
        HandleKernel x = Scenes.crowded(2);
        due(x.make(0, MEMORY), 0);
        due(x.twin(0, 0), 1);
        due(x.twin(0, 0), FULL);
        due(x.info(0, -1, 0), 16);
        due(x.close(0, 0), OK);
        due(x.twin(0, 1), 0);
    }

    private static void placesLackForTwin() {
        Check.part("12: NO_ROOM");
        HandleKernel x = new HandleKernel();
        due(x.make(0, MEMORY), 0);
        Scenes.fillPlaces(x, 0, 1);
        due(x.twin(0, 0), 9);
        due(x.twin(0, 0), NO_ROOM);
        due(x.info(0, -1, 3), 2);
        due(x.close(0, 5), OK);
        due(x.twin(0, 0), 5);
    }

    private static void promises13And14() {
        bitsOfAWatch();
        keysOfAWatch();
        twelveWatches();
        firstPacket();
        otherParts();
        noPacket();
        refusalOfPacket();
        part3();
    }

    private static void bitsOfAWatch() {
        Check.part("13: for bits & 2047");
        HandleKernel x = new HandleKernel();
        x.make(0, PORT);
        x.make(0, EVENT);
        for (int signal = 0; signal < 8; signal++) {
            due(x.signal(0, 1, signal, true), (2 << signal) - 1);
        }
        int[] none = {0, 2048, 4096, -2048, LEAST, 1792};
        for (int i = 0; i < none.length; i++) {
            due(x.watch(0, 1, 0, none[i], 1), OK);
            due(x.info(0, -1, 1), i + 1);
        }
        due(x.packet(0, 0, 3), 0);
        int[] some = {1, 128, 2049, -1, MOST, -2047};
        for (int i = 0; i < some.length; i++) {
            due(x.watch(0, 1, 0, some[i], 1), OK);
            due(x.packet(0, 0, 3), i + 1);
        }
        due(x.info(0, -1, 1), none.length);
        // 1024, the greatest bit, is there too.
        HandleKernel y = new HandleKernel();
        y.make(0, PORT);
        due(y.spawn(0, -1), 1);
        due(y.kill(0, 1), OK);
        due(y.watch(0, 1, 0, 1023, 1), OK);
        due(y.packet(0, 0, 3), 0);
        due(y.watch(0, 1, 0, 1024, 1), OK);
        due(y.packet(0, 0, 3), 1);
    }

    private static void keysOfAWatch() {
        Check.part("13: with a port (WRITE) and a key: OK.");
        HandleKernel x = new HandleKernel();
        x.make(0, PORT);
        x.make(0, EVENT);
        x.signal(0, 1, 0, true);
        for (int key : new int[] {LEAST, -9, -1, 0, 1, MOST}) {
            due(x.watch(0, 1, 0, 1, key), OK);
            due(x.packet(0, 0, 0), key);
        }
        // A port can be watched as any other object, with another port or itself.
        due(x.watch(0, 0, 0, READABLE, 3), OK);
        due(x.watch(0, 1, 0, 1, 4), OK);
        due(x.packet(0, 0, 0), 4);
        due(x.packet(0, 0, 0), 3);
    }

    private static void twelveWatches() {
        Check.part("13: FULL if there are 12 watches.");
        HandleKernel x = new HandleKernel();
        x.make(0, PORT);
        x.make(0, EVENT);
        x.signal(0, 1, 0, true);
        for (int i = 0; i < 11; i++) {
            due(x.watch(0, 1, 0, 2, i), OK);
        }
        // With 11 there is room, also for one that ends at once.
        due(x.watch(0, 1, 0, 1, 50), OK);
        due(x.packet(0, 0, 0), 50);
        due(x.watch(0, 1, 0, 2, 11), OK);
        due(x.watch(0, 1, 0, 2, 12), FULL);
        due(x.watch(0, 1, 0, 1, 12), FULL);
        due(x.packet(0, 0, 3), 0);
        due(x.info(0, -1, 1), 12);
        due(x.signal(0, 1, 1, true), 3);
        due(x.info(0, -1, 1), 0);
        due(x.packet(0, 0, 3), 6);
        due(x.watch(0, 1, 0, 4, 12), OK);
    }

    private static void firstPacket() {
        Check.part("14: Takes the first packet of a port (READ); part 0 its key, 1 the object's number, 2 the signals");
        HandleKernel x = new HandleKernel();
        x.make(0, PORT);
        for (int i = 1; i < 7; i++) {
            due(x.make(0, EVENT), i);
            due(x.signal(0, i, i, true), 1 << i);
            due(x.watch(0, i, 0, 1 << i, -i), OK);
        }
        for (int i = 1; i < 7; i++) {
            long[] parts = {-i, i, 1 << i};
            due(x.packet(0, 0, i % 3), parts[i % 3]);
            due(x.packet(0, 0, 3), 6 - i);
        }
    }

    private static void otherParts() {
        Check.part("14: else BAD_VALUE");
        HandleKernel x = new HandleKernel();
        x.make(0, PORT);
        x.make(0, EVENT);
        x.signal(0, 1, 0, true);
        for (int packets = 0; packets < 2; packets++) {
            for (int part : new int[] {-1, 4, 5, LEAST, MOST}) {
                due(x.packet(0, 0, part), LONG_REFUSAL + BAD_VALUE);
                due(x.packet(0, 0, 3), packets);
            }
            due(x.watch(0, 1, 0, 1, 7), OK);
        }
        due(x.packet(0, 0, 3), 2);
    }

    private static void noPacket() {
        Check.part("14: EMPTY if there is none.");
        HandleKernel x = new HandleKernel();
        x.make(0, PORT);
        x.make(0, PORT);
        x.make(0, EVENT);
        x.signal(0, 2, 0, true);
        for (int round = 0; round < 2; round++) {
            for (int part = 0; part < 3; part++) {
                due(x.packet(0, 0, part), LONG_REFUSAL + EMPTY);
            }
            due(x.watch(0, 2, 0, 1, 7), OK);
            due(x.packet(0, 1, 0), LONG_REFUSAL + EMPTY);
            due(x.packet(0, 0, 0), 7);
        }
        due(x.packet(0, 0, 0), LONG_REFUSAL + EMPTY);
    }

    private static void refusalOfPacket() {
        Check.part("14: As a long; else the refusal minus 10000000000.");
        HandleKernel x = Scenes.oneOfEach();
        due(x.copy(0, 4, ALL - READ), 6);
        for (int key : new int[] {LEAST, MOST, -8}) {
            due(x.packet(0, 4, 2), 1);
            due(x.watch(0, 2, 4, 1, key), OK);
            due(x.watch(0, 2, 4, 1, 0), OK);
            due(x.packet(0, 4, 0), key);
        }
        due(x.packet(0, 4, 2), 1);
        due(x.packet(0, 4, 0), -10000000008L);
        due(x.packet(0, 4, 4), -10000000009L);
        due(x.packet(4, 4, 3), -10000000001L);
        due(x.packet(0, 10, 3), -10000000002L);
        due(x.packet(0, 2, 3), -10000000003L);
        due(x.packet(0, 6, 3), -10000000004L);
    }

    private static void part3() {
        Check.part("14: With part 3 it is not taken, and the answer is how many there are.");
        HandleKernel x = new HandleKernel();
        x.make(0, PORT);
        x.make(0, EVENT);
        x.signal(0, 1, 0, true);
        due(x.packet(0, 0, 3), 0);
        for (int key = 1; key < 9; key++) {
            due(x.watch(0, 1, 0, 1, key), OK);
            due(x.packet(0, 0, 3), key < 6 ? key : 6);
            due(x.packet(0, 0, 3), key < 6 ? key : 6);
        }
        for (int key = 1; key < 7; key++) {
            due(x.packet(0, 0, 0), key);
            due(x.packet(0, 0, 3), 6 - key);
        }
    }

    private static void promises15And16() {
        leastProcessThatDoesNotRun();
        withoutHandlesAndGotNothing();
        handleThatMoves();
        noSuchProcess();
        tooManyObjectsForSpawn();
        placeOfACountsAsFree();
        runsNoMoreAndIsDead();
        itsHandlesAreNoMore();
        doesNotRun();
    }

    private static void leastProcessThatDoesNotRun() {
        Check.part("15: The least process that does not run, and to which no object belongs, runs from now on");
        HandleKernel x = new HandleKernel();
        due(x.make(0, CHANNEL), 16);
        due(x.spawn(0, -1), 2);
        due(x.info(0, -1, 2), 3);
        // Process 1 runs no more, but its object is there, in a place or in a message.
        due(x.kill(0, 2), OK);
        due(x.spawn(0, -1), 3);
        due(x.info(0, -1, 2), 5);
        due(x.send(0, 0, 1, 2, -1), OK);
        due(x.spawn(0, -1), 2);
        due(x.info(0, -1, 2), 13);
        // Process 2 has no object, but it runs.
        due(x.close(0, 3), OK);
        due(x.spawn(0, -1), BAD_VALUE);
        due(x.close(0, 1), OK);
        due(x.spawn(0, -1), 1);
        due(x.info(0, -1, 2), 15);
        // Of two that are free the least.
        due(x.kill(0, 2), OK);
        due(x.kill(0, 1), OK);
        due(x.close(0, 2), OK);
        due(x.close(0, 1), OK);
        due(x.info(0, -1, 2), 5);
        due(x.spawn(0, -1), 1);
        due(x.info(0, -1, 2), 7);
    }

    private static void withoutHandlesAndGotNothing() {
        Check.part("15: without handles and got nothing");
        HandleKernel x = new HandleKernel();
        due(x.make(0, CHANNEL), 16);
        due(x.make(0, EVENT), 2);
        due(x.copy(0, 1, ALL), 3);
        due(x.spawn(0, 3), 3);
        due(x.send(0, 0, 5, -1, 2), OK);
        due(x.receive(1, 0), 1);
        due(x.make(1, EVENT), 2);
        due(x.kill(0, 3), OK);
        due(x.close(0, 3), OK);
        due(x.spawn(0, -1), 2);
        for (int place = 0; place < 10; place++) {
            due(x.info(1, place, 0), BAD_HANDLE);
        }
        due(x.got(1, 0), 0);
        due(x.got(1, 1), -1);
        due(x.got(1, 2), -1);
        due(x.make(1, EVENT), 0);
    }

    private static void handleThatMoves() {
        Check.part("15: that at place a moves there (SEND), if it is not -1, with place 0. Its PROCESS object's handle's place.");
        HandleKernel x = new HandleKernel();
        due(x.make(0, EVENT), 0);
        Scenes.fillPlaces(x, 0, 0);
        due(x.restrict(0, 9, SEND | WATCH), SEND | WATCH);
        due(x.restrict(0, 8, ALL - SEND), ALL - SEND);
        due(x.spawn(0, 8), NO_RIGHT);
        due(x.spawn(0, 9), 9);
        due(x.info(0, 9, 0), PROCESS);
        due(x.info(0, 9, 2), ALL);
        due(x.info(1, 0, 1), 0);
        due(x.info(1, 0, 2), SEND | WATCH);
        due(x.info(1, 1, 0), BAD_HANDLE);
        due(x.info(0, 0, 4), 10);
        // The place that the handle leaves can be the least free one, or not.
        due(x.close(0, 3), OK);
        due(x.spawn(0, 5), 3);
        due(x.info(0, 5, 0), BAD_HANDLE);
        due(x.info(2, 0, 1), 0);
        due(x.spawn(0, 1), 1);
        due(x.info(3, 0, 1), 0);
        due(x.info(0, 5, 0), BAD_HANDLE);
        for (int place : new int[] {-2, 5, 10, LEAST, MOST}) {
            due(x.spawn(0, place), BAD_HANDLE);
        }
    }

    private static void noSuchProcess() {
        Check.part("15: BAD_VALUE if there is no such process");
        HandleKernel x = new HandleKernel();
        due(x.make(0, EVENT), 0);
        for (int i = 1; i <= 3; i++) {
            due(x.spawn(i - 1, -1), i == 1 ? 1 : 0);
        }
        for (int process = 0; process < 4; process++) {
            due(x.spawn(process, -1), BAD_VALUE);
        }
        due(x.spawn(0, 0), BAD_VALUE);
        due(x.info(0, 0, 0), EVENT);
        due(x.info(0, -1, 3), 4);
        due(x.kill(0, 1), OK);
        due(x.spawn(0, -1), BAD_VALUE);
        due(x.close(0, 1), OK);
        due(x.spawn(0, -1), 1);
    }

    private static void tooManyObjectsForSpawn() {
        Check.part("15: FULL");
        HandleKernel x = Scenes.crowded(1);
        due(x.make(0, EVENT), 0);
        due(x.spawn(0, -1), FULL);
        // The handle that would move keeps its object, so nothing is gained by it.
        due(x.spawn(0, 0), FULL);
        due(x.info(0, 0, 4), 1);
        due(x.info(0, -1, 2), 3);
        due(x.close(0, 0), OK);
        due(x.spawn(0, -1), 0);
        due(x.info(0, -1, 0), 16);
        due(x.info(0, -1, 2), 7);
    }

    private static void placeOfACountsAsFree() {
        Check.part("15: NO_ROOM (the place of a counts as free).");
        HandleKernel x = new HandleKernel();
        due(x.make(0, EVENT), 0);
        Scenes.fillPlaces(x, 0, 0);
        due(x.spawn(0, -1), NO_ROOM);
        due(x.info(0, -1, 2), 1);
        due(x.info(0, -1, 3), 1);
        due(x.spawn(0, 6), 6);
        due(x.spawn(0, -1), NO_ROOM);
        due(x.close(0, 8), OK);
        due(x.spawn(0, -1), 8);
        due(x.spawn(0, 0), 0);
        due(x.info(0, -1, 2), 15);
    }

    private static void runsNoMoreAndIsDead() {
        Check.part("16: Kills the process of a PROCESS object (MANAGE): it runs no more and is DEAD");
        HandleKernel x = new HandleKernel();
        for (int place = 0; place < 3; place++) {
            due(x.spawn(0, -1), place);
        }
        due(x.copy(0, 1, ALL - MANAGE), 3);
        due(x.kill(0, 3), NO_RIGHT);
        due(x.info(0, -1, 2), 15);
        due(x.restrict(0, 1, MANAGE), MANAGE);
        due(x.kill(0, 1), OK);
        due(x.info(0, -1, 2), 11);
        due(x.info(0, 3, 3), DEAD);
        due(x.info(0, 0, 3), 0);
        due(x.info(0, 2, 3), 0);
        due(x.make(2, EVENT), NO_PROCESS);
        due(x.make(3, EVENT), 0);
        // A process can kill itself.
        HandleKernel y = new HandleKernel();
        due(y.make(0, CHANNEL), 16);
        due(y.spawn(0, 1), 1);
        due(y.send(0, 0, 0, 1, -1), OK);
        due(y.receive(1, 0), 1);
        due(y.kill(1, 1), OK);
        due(y.info(0, -1, 2), 1);
        due(y.info(0, -1, 0), 1);
        due(y.info(0, 0, 3), PEER_CLOSED);
    }

    private static void itsHandlesAreNoMore() {
        Check.part("16: then its handles are no more: OK");
        HandleKernel x = new HandleKernel();
        due(x.make(0, EVENT), 0);
        due(x.copy(0, 0, ALL), 1);
        due(x.spawn(0, 1), 1);
        for (int place = 1; place < 10; place++) {
            due(x.copy(1, 0, ALL), place);
        }
        due(x.info(0, 0, 4), 11);
        due(x.kill(0, 1), OK);
        due(x.info(0, 0, 4), 1);
        for (int place = 0; place < 10; place++) {
            due(x.info(1, place, 0), NO_PROCESS);
        }
        // Those that it had sent go on waiting, and those of other processes stay.
        HandleKernel y = new HandleKernel();
        due(y.make(0, CHANNEL), 16);
        due(y.spawn(0, 1), 1);
        due(y.make(1, MEMORY), 1);
        due(y.store(1, 1, 0, 77), OK);
        due(y.send(1, 0, 3, 1, -1), OK);
        due(y.kill(0, 1), OK);
        due(y.info(0, 0, 3), READABLE | PEER_CLOSED);
        due(y.info(0, -1, 0), 3);
        due(y.receive(0, 0), 1);
        due(y.load(0, 2, 0), 77);
    }

    private static void doesNotRun() {
        Check.part("16: EMPTY if it does not run.");
        HandleKernel x = new HandleKernel();
        due(x.spawn(0, -1), 0);
        due(x.copy(0, 0, ALL), 1);
        due(x.kill(0, 0), OK);
        due(x.kill(0, 0), EMPTY);
        due(x.kill(0, 1), EMPTY);
        due(x.info(0, 0, 3), DEAD);
        // Another process runs by now, with an object of its own.
        due(x.spawn(0, -1), 2);
        due(x.kill(0, 0), EMPTY);
        due(x.kill(0, 2), OK);
    }

    private static void promise17() {
        sixAnswersOfAHandle();
        handlesInMessagesToo();
        minus1IfThereIsNoPeer();
        otherWhatsOfAHandle();
        fourAnswersOfAll();
        noTestOfTheHandle();
        otherWhatsOfAll();
    }

    private static void sixAnswersOfAHandle() {
        Check.part("17: Of a handle what 0: its object's kind; 1: its number; 2: the rights; 3: the object's signals");
        HandleKernel x = Scenes.oneOfEach();
        due(x.kill(0, 5), OK);
        int[] kinds = {END, END, EVENT, MEMORY, PORT, PROCESS};
        int[] signals = {READABLE, READABLE, 1, 0, READABLE, DEAD};
        for (int place = 0; place < 6; place++) {
            for (int rights : new int[] {ALL, ALL - READ, WATCH, 0}) {
                due(x.restrict(0, place, rights), rights);
                due(x.info(0, place, 0), kinds[place]);
                due(x.info(0, place, 1), place);
                due(x.info(0, place, 2), rights);
                due(x.info(0, place, 3), signals[place]);
            }
        }
    }

    private static void handlesInMessagesToo() {
        Check.part("17: 4: how many handles refer to it, in messages too");
        HandleKernel x = new HandleKernel();
        due(x.make(0, CHANNEL), 16);
        due(x.make(0, EVENT), 2);
        int handles = 1;
        due(x.info(0, 2, 4), handles);
        for (int i = 0; i < 8; i++) {
            due(x.copy(0, 2, ALL), 3);
            due(x.copy(0, 2, ALL), 4);
            handles += 2;
            due(x.info(0, 2, 4), handles);
            due(x.send(0, i % 2, i, 3, 4), OK);
            due(x.info(0, 2, 4), handles);
        }
        due(x.info(0, 2, 4), 17);
        due(x.copy(0, 2, ALL), 3);
        due(x.spawn(0, 3), 3);
        due(x.copy(1, 0, ALL), 1);
        due(x.info(0, 2, 4), 19);
        due(x.receive(0, 0), 2);
        due(x.info(0, 2, 4), 19);
        due(x.close(0, 4), OK);
        due(x.info(0, 2, 4), 18);
        due(x.close(0, 0), OK);
        due(x.info(0, 2, 4), 12);
        due(x.close(0, 1), OK);
        due(x.info(0, 2, 4), 4);
    }

    private static void minus1IfThereIsNoPeer() {
        Check.part("17: 5: its object's peer's number, -1 if there is none");
        HandleKernel x = Scenes.oneOfEach();
        int[] peers = {1, 0, -1, -1, -1, -1};
        for (int place = 0; place < 6; place++) {
            due(x.info(0, place, 5), peers[place]);
        }
        due(x.close(0, 0), OK);
        due(x.info(0, 1, 5), -1);
        due(x.make(0, CHANNEL), 16 * 6);
        due(x.info(0, 0, 5), 7);
        due(x.info(0, 6, 5), 6);
        due(x.info(0, 1, 5), -1);
        due(x.close(0, 6), OK);
        due(x.make(0, EVENT), 6);
        due(x.info(0, 0, 5), -1);
        due(x.info(0, 6, 5), -1);
    }

    private static void otherWhatsOfAHandle() {
        Check.part("17: else BAD_VALUE (of a handle)");
        HandleKernel x = Scenes.oneOfEach();
        for (int what : new int[] {-1, 6, 7, LEAST, MOST}) {
            for (int place = 0; place < 6; place++) {
                due(x.info(0, place, what), BAD_VALUE);
            }
            due(x.info(0, 6, what), BAD_HANDLE);
            due(x.info(0, 10, what), BAD_HANDLE);
            due(x.info(0, -2, what), BAD_HANDLE);
        }
    }

    private static void fourAnswersOfAll() {
        Check.part("17: what 0: how many objects there are; 1: watches; 2: the sum of 2^k for processes k that run; 3: how many objects were made");
        HandleKernel x = new HandleKernel();
        all(x, 0, 0, 1, 0);
        due(x.make(0, CHANNEL), 16);
        all(x, 2, 0, 1, 2);
        due(x.make(0, PORT), 2);
        due(x.watch(0, 0, 2, READABLE, 1), OK);
        due(x.watch(0, 1, 2, READABLE, 1), OK);
        all(x, 3, 2, 1, 3);
        due(x.spawn(0, -1), 3);
        due(x.spawn(0, -1), 4);
        due(x.spawn(0, -1), 5);
        all(x, 6, 2, 15, 6);
        due(x.kill(0, 4), OK);
        all(x, 6, 2, 11, 6);
        due(x.kill(0, 3), OK);
        due(x.close(0, 3), OK);
        all(x, 5, 2, 9, 6);
        due(x.send(0, 0, 0, -1, -1), OK);
        all(x, 5, 1, 9, 6);
        due(x.close(0, 2), OK);
        all(x, 4, 0, 9, 6);
        due(x.make(0, 4), BAD_VALUE);
        due(x.make(0, EVENT), 2);
        all(x, 5, 0, 9, 7);
        for (int what = 0; what < 4; what++) {
            due(x.info(3, -1, what), x.info(0, -1, what));
        }
    }

    private static void all(HandleKernel x, int objects, int watches, int running, int made) {
        due(x.info(0, -1, 0), objects);
        due(x.info(0, -1, 1), watches);
        due(x.info(0, -1, 2), running);
        due(x.info(0, -1, 3), made);
    }

    private static void noTestOfTheHandle() {
        Check.part("17: With handle -1 (no test of it)");
        HandleKernel x = new HandleKernel();
        due(x.info(0, -1, 2), 1);
        due(x.info(0, -2, 2), BAD_HANDLE);
        due(x.info(0, 0, 2), BAD_HANDLE);
        due(x.info(1, -1, 2), NO_PROCESS);
        for (int process : NOT_THERE) {
            due(x.info(process, -1, 2), NO_PROCESS);
        }
    }

    private static void otherWhatsOfAll() {
        Check.part("17: else BAD_VALUE (with handle -1)");
        HandleKernel x = Scenes.oneOfEach();
        for (int what : new int[] {-1, 4, 5, 6, LEAST, MOST}) {
            due(x.info(0, -1, what), BAD_VALUE);
            due(x.info(1, -1, what), BAD_VALUE);
            due(x.info(2, -1, what), NO_PROCESS);
        }
    }
}
