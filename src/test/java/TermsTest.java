/** The terms that all promises use: the order of destroying, of watches and of packets, and objects that live in messages. */
public final class TermsTest implements Names {
    public static void main(String[] args) {
        handlesInMessagesKeepObjects();
        messagesGoWithTheirEnd();
        endsInTheirOwnMessages();
        leastNumberIsDestroyedFirst();
        handlesOfTheKilledGoTogether();
        watchesGoWithObjectAndPort();
        firstWatchEndsFirst();
        packetsGoFromPortToPort();
        fullPortLosesPackets();
        portWatchesItself();
        portThatWaitsForItsEndPassesPacketsOn();
        deadComesBeforeTheHandlesGo();
        closedSignalIsWatched();
        processOutlivesItsObject();
        numbersAreForGood();
        sixteenObjectsGoAtOnce();
        twelveWatchesEndAtOnce();
        Check.end();
    }

    private static void due(long got, long want) {
        Check.due(got, want);
    }

    private static void handlesInMessagesKeepObjects() {
        Check.part("handles in messages keep objects");
        HandleKernel x = new HandleKernel();
        x.make(0, CHANNEL);
        x.make(0, MEMORY);
        x.store(0, 2, 3, 33);
        due(x.restrict(0, 2, READ | SEND), READ | SEND);
        due(x.send(0, 0, 1, 2, -1), OK);
        due(x.info(0, -1, 0), 3);
        due(x.close(0, 0), OK);
        due(x.info(0, -1, 0), 2);
        due(x.receive(0, 1), 1);
        due(x.got(0, 1), 0);
        due(x.load(0, 0, 3), 33);
        due(x.store(0, 0, 3, 1), NO_RIGHT);
        due(x.info(0, 0, 1), 2);
    }

    private static void messagesGoWithTheirEnd() {
        Check.part("messages go with their end");
        HandleKernel x = new HandleKernel();
        x.make(0, CHANNEL);
        x.make(0, CHANNEL);
        x.make(0, CHANNEL);
        x.make(0, PORT);
        due(x.watch(0, 4, 6, PEER_CLOSED, 44), OK);
        due(x.send(0, 2, 1, 5, -1), OK);
        due(x.send(0, 0, 2, 3, -1), OK);
        due(x.info(0, -1, 0), 7);
        due(x.info(0, 4, 3), 0);
        due(x.close(0, 1), OK);
        due(x.info(0, -1, 0), 4);
        due(x.info(0, 0, 3), PEER_CLOSED);
        due(x.info(0, 2, 3), PEER_CLOSED);
        due(x.info(0, 4, 3), PEER_CLOSED);
        due(x.packet(0, 6, 3), 1);
        due(x.packet(0, 6, 1), 4);
    }

    private static void endsInTheirOwnMessages() {
        Check.part("ends in their own messages");
        HandleKernel x = new HandleKernel();
        x.make(0, CHANNEL);
        due(x.send(0, 0, 1, 1, -1), OK);
        due(x.send(0, 0, 2, -1, -1), OK);
        due(x.receive(0, 0), EMPTY);
        due(x.close(0, 0), OK);
        due(x.info(0, -1, 0), 1);
        due(x.make(0, CHANNEL), 16);
        due(x.copy(0, 0, ALL), 2);
        due(x.send(0, 0, 3, 2, -1), OK);
        due(x.info(0, 0, 4), 2);
        due(x.close(0, 0), OK);
        due(x.info(0, 1, 3), READABLE);
        due(x.info(0, -1, 0), 3);
        due(x.close(0, 1), OK);
        due(x.info(0, -1, 0), 1);
    }

    private static void leastNumberIsDestroyedFirst() {
        Check.part("the least number is destroyed first");
        HandleKernel x = new HandleKernel();
        // The messages of end 7 hold end 5 before end 3.
        x.make(0, EVENT);
        x.make(0, PORT);
        x.make(0, CHANNEL);
        x.make(0, CHANNEL);
        x.make(0, CHANNEL);
        due(x.watch(0, 2, 1, PEER_CLOSED, 20), OK);
        due(x.watch(0, 4, 1, PEER_CLOSED, 40), OK);
        due(x.send(0, 6, 1, 5, -1), OK);
        due(x.send(0, 6, 2, 3, -1), OK);
        due(x.close(0, 7), OK);
        due(x.packet(0, 1, 0), 20);
        due(x.packet(0, 1, 0), 40);
        due(x.info(0, -1, 0), 5);

        // End 4 stands where the event was that is no more, and in the message before end 2: its number counts alone.
        HandleKernel y = new HandleKernel();
        y.make(0, EVENT);
        y.make(0, PORT);
        y.make(0, CHANNEL);
        y.close(0, 0);
        y.make(0, CHANNEL);
        y.make(0, CHANNEL);
        due(y.info(0, 0, 1), 4);
        due(y.info(0, 2, 1), 2);
        due(y.info(0, 4, 1), 5);
        due(y.watch(0, 4, 1, PEER_CLOSED, 4), OK);
        due(y.watch(0, 3, 1, PEER_CLOSED, 3), OK);
        due(y.send(0, 5, 1, 0, 2), OK);
        due(y.close(0, 6), OK);
        due(y.packet(0, 1, 0), 3);
        due(y.packet(0, 1, 0), 4);
    }

    private static void handlesOfTheKilledGoTogether() {
        Check.part("handles of the killed go together");
        HandleKernel x = new HandleKernel();
        x.make(0, PORT);
        x.make(0, CHANNEL);
        x.make(0, CHANNEL);
        x.make(0, CHANNEL);
        due(x.watch(0, 1, 0, PEER_CLOSED, 1), OK);
        due(x.watch(0, 3, 0, PEER_CLOSED, 3), OK);
        due(x.spawn(0, 6), 6);
        due(x.send(0, 5, 1, 4, 2), OK);
        due(x.receive(1, 0), 2);
        due(x.info(1, 1, 1), 4);
        due(x.info(1, 2, 1), 2);
        due(x.kill(0, 6), OK);
        due(x.packet(0, 0, 0), 1);
        due(x.packet(0, 0, 0), 3);
        due(x.info(0, 5, 3), PEER_CLOSED);
        due(x.info(0, -1, 0), 5);
    }

    private static void watchesGoWithObjectAndPort() {
        Check.part("watches go with object and port");
        HandleKernel x = new HandleKernel();
        x.make(0, PORT);
        x.make(0, PORT);
        x.make(0, EVENT);
        x.make(0, EVENT);
        due(x.watch(0, 2, 0, 1, 1), OK);
        due(x.watch(0, 3, 1, 1, 2), OK);
        due(x.watch(0, 3, 0, 1, 3), OK);
        due(x.watch(0, 0, 1, READABLE, 4), OK);
        due(x.watch(0, 1, 1, READABLE, 5), OK);
        due(x.info(0, -1, 1), 5);
        due(x.close(0, 2), OK);
        due(x.info(0, -1, 1), 4);
        due(x.close(0, 1), OK);
        due(x.info(0, -1, 1), 1);
        // The new objects must not take over what belonged to those that were in their slots.
        due(x.make(0, PORT), 1);
        due(x.make(0, EVENT), 2);
        due(x.signal(0, 2, 0, true), 1);
        due(x.packet(0, 0, 3), 0);
        due(x.signal(0, 3, 0, true), 1);
        due(x.packet(0, 0, 3), 1);
        due(x.packet(0, 1, 3), 0);
        due(x.packet(0, 0, 0), 3);
        due(x.info(0, -1, 1), 0);
        due(x.watch(0, 3, 0, 2, 6), OK);
        due(x.copy(0, 3, ALL), 4);
        due(x.close(0, 3), OK);
        due(x.info(0, -1, 1), 1);
        due(x.close(0, 4), OK);
        due(x.info(0, -1, 1), 0);
    }

    private static void firstWatchEndsFirst() {
        Check.part("the first watch ends first");
        HandleKernel x = new HandleKernel();
        x.make(0, PORT);
        x.make(0, EVENT);
        due(x.watch(0, 1, 0, 1, 10), OK);
        due(x.watch(0, 1, 0, 6, 11), OK);
        due(x.watch(0, 1, 0, 3, 12), OK);
        due(x.watch(0, 1, 0, 2, 13), OK);
        due(x.signal(0, 1, 1, true), 2);
        due(x.info(0, -1, 1), 1);
        due(x.signal(0, 1, 0, true), 3);
        due(x.info(0, -1, 1), 0);
        due(x.packet(0, 0, 3), 4);
        due(x.packet(0, 0, 0), 11);
        due(x.packet(0, 0, 2), 2);
        due(x.packet(0, 0, 0), 13);
        due(x.packet(0, 0, 2), 3);
    }

    private static void packetsGoFromPortToPort() {
        Check.part("packets go from port to port");
        HandleKernel x = new HandleKernel();
        x.make(0, PORT);
        x.make(0, PORT);
        x.make(0, EVENT);
        // The watch of port 0 was made before the second one of the event: it ends in between.
        due(x.watch(0, 2, 0, 1, 1), OK);
        due(x.watch(0, 0, 1, READABLE, 2), OK);
        due(x.watch(0, 2, 1, 1, 3), OK);
        due(x.signal(0, 2, 0, true), 1);
        due(x.packet(0, 0, 3), 1);
        due(x.packet(0, 1, 3), 2);
        due(x.packet(0, 1, 0), 2);
        due(x.packet(0, 1, 0), 3);
        due(x.packet(0, 0, 0), 1);

        // The watch of port 0 was made first, but it is met only once the event's first one has ended.
        due(x.signal(0, 2, 0, false), 0);
        due(x.watch(0, 0, 1, READABLE, 4), OK);
        due(x.watch(0, 2, 0, 1, 5), OK);
        due(x.watch(0, 2, 1, 1, 6), OK);
        due(x.signal(0, 2, 0, true), 1);
        due(x.packet(0, 1, 3), 2);
        due(x.packet(0, 1, 1), 0);
        due(x.packet(0, 1, 0), 6);
        due(x.packet(0, 0, 0), 5);

        // A watch that is met when it is made passes on too.
        due(x.watch(0, 0, 1, READABLE, 7), OK);
        due(x.watch(0, 2, 0, 1, 8), OK);
        due(x.packet(0, 0, 0), 8);
        due(x.packet(0, 1, 2), READABLE);
        due(x.info(0, -1, 1), 0);
    }

    private static void fullPortLosesPackets() {
        Check.part("a full port loses packets");
        HandleKernel x = new HandleKernel();
        x.make(0, PORT);
        x.make(0, EVENT);
        for (int key = 0; key < 9; key++) {
            due(x.watch(0, 1, 0, 1, key), OK);
        }
        due(x.signal(0, 1, 0, true), 1);
        due(x.info(0, -1, 1), 0);
        due(x.packet(0, 0, 3), 6);
        for (int key = 0; key < 6; key++) {
            due(x.packet(0, 0, 0), key);
        }
        due(x.packet(0, 0, 3), 0);
        due(x.watch(0, 1, 0, 1, 9), OK);
        due(x.packet(0, 0, 0), 9);
    }

    private static void portWatchesItself() {
        Check.part("a port watches itself");
        HandleKernel x = new HandleKernel();
        x.make(0, PORT);
        x.make(0, EVENT);
        due(x.watch(0, 0, 0, READABLE, 1), OK);
        due(x.watch(0, 0, 0, READABLE, 2), OK);
        due(x.watch(0, 1, 0, 1, 3), OK);
        due(x.info(0, 0, 3), 0);
        due(x.signal(0, 1, 0, true), 1);
        due(x.packet(0, 0, 3), 3);
        due(x.packet(0, 0, 0), 3);
        due(x.packet(0, 0, 1), 0);
        due(x.packet(0, 0, 2), READABLE);
        due(x.info(0, 0, 3), 0);
        due(x.watch(0, 0, 0, READABLE, 1), OK);
        due(x.close(0, 0), OK);
        due(x.info(0, -1, 1), 0);
        due(x.info(0, -1, 0), 1);
    }

    private static void portThatWaitsForItsEndPassesPacketsOn() {
        Check.part("a port to be destroyed passes packets on");
        HandleKernel x = new HandleKernel();
        // Port 5 and end 1 lose their handles together; end 1 goes first, so port 5 still takes the packet.
        x.make(0, CHANNEL);
        x.make(0, CHANNEL);
        x.make(0, PORT);
        x.make(0, PORT);
        due(x.watch(0, 0, 5, PEER_CLOSED, 1), OK);
        due(x.watch(0, 5, 4, READABLE, 2), OK);
        due(x.send(0, 2, 1, 1, 5), OK);
        due(x.close(0, 3), OK);
        due(x.packet(0, 4, 3), 1);
        due(x.packet(0, 4, 1), 5);
        due(x.info(0, -1, 0), 3);

        // Port 0 goes before end 2, so its watches are no more by then.
        HandleKernel y = new HandleKernel();
        y.make(0, PORT);
        y.make(0, CHANNEL);
        y.make(0, CHANNEL);
        y.make(0, PORT);
        due(y.watch(0, 1, 0, PEER_CLOSED, 1), OK);
        due(y.watch(0, 0, 5, READABLE, 2), OK);
        due(y.send(0, 3, 1, 2, 0), OK);
        due(y.close(0, 4), OK);
        due(y.packet(0, 5, 3), 0);
        due(y.info(0, -1, 1), 0);
        due(y.info(0, 1, 3), PEER_CLOSED);
    }

    private static void deadComesBeforeTheHandlesGo() {
        Check.part("DEAD comes before the handles go");
        HandleKernel x = new HandleKernel();
        x.make(0, PORT);
        x.make(0, CHANNEL);
        due(x.watch(0, 1, 0, PEER_CLOSED, 1), OK);
        due(x.spawn(0, 2), 2);
        due(x.watch(0, 2, 0, DEAD, 2), OK);
        due(x.kill(0, 2), OK);
        due(x.packet(0, 0, 3), 2);
        due(x.packet(0, 0, 0), 2);
        due(x.packet(0, 0, 0), 1);
        due(x.watch(0, 2, 0, DEAD, 3), OK);
        due(x.packet(0, 0, 2), DEAD);

        // The port is held by the killed process alone, but it is still there when the process becomes DEAD.
        HandleKernel y = new HandleKernel();
        y.make(0, PORT);
        y.make(0, PORT);
        y.copy(0, 1, ALL);
        due(y.spawn(0, 2), 2);
        due(y.watch(0, 2, 1, DEAD, 1), OK);
        due(y.watch(0, 1, 0, READABLE, 2), OK);
        due(y.close(0, 1), OK);
        due(y.kill(0, 2), OK);
        due(y.packet(0, 0, 3), 1);
        due(y.packet(0, 0, 0), 2);
        due(y.info(0, -1, 0), 2);
    }

    private static void closedSignalIsWatched() {
        Check.part("READABLE and CLOSED are watched");
        HandleKernel x = new HandleKernel();
        x.make(0, PORT);
        x.make(0, CHANNEL);
        due(x.watch(0, 2, 0, READABLE, 1), OK);
        due(x.send(0, 2, 1, -1, -1), OK);
        due(x.packet(0, 0, 3), 0);
        due(x.send(0, 1, 1, -1, -1), OK);
        due(x.packet(0, 0, 3), 1);
        due(x.watch(0, 2, 0, PEER_CLOSED, 2), OK);
        due(x.send(0, 1, 1, -1, -1), OK);
        due(x.packet(0, 0, 3), 1);
        due(x.close(0, 1), OK);
        due(x.packet(0, 0, 1), 2);
        due(x.packet(0, 0, 2), READABLE | PEER_CLOSED);
        due(x.receive(0, 2), 0);
        due(x.info(0, 2, 3), READABLE | PEER_CLOSED);
        due(x.receive(0, 2), 0);
        due(x.info(0, 2, 3), PEER_CLOSED);
    }

    private static void processOutlivesItsObject() {
        Check.part("a process goes on without its object");
        HandleKernel x = new HandleKernel();
        due(x.spawn(0, -1), 0);
        due(x.close(0, 0), OK);
        due(x.info(0, -1, 0), 0);
        due(x.info(0, -1, 2), 3);
        due(x.make(1, EVENT), 0);
        due(x.spawn(0, -1), 0);
        due(x.info(0, -1, 2), 7);
        due(x.kill(0, 0), OK);
        due(x.info(0, -1, 2), 3);
        due(x.info(1, 0, 1), 1);
    }

    private static void numbersAreForGood() {
        Check.part("numbers are for good");
        HandleKernel x = new HandleKernel();
        due(x.make(0, EVENT), 0);
        for (int number = 1; number < 120; number++) {
            due(x.make(0, number % 2 == 0 ? EVENT : MEMORY), 1);
            due(x.info(0, 1, 1), number);
            due(x.close(0, 1), OK);
            due(x.info(0, 1, 1), BAD_HANDLE);
        }
        due(x.info(0, 0, 1), 0);
        due(x.info(0, -1, 3), 120);
        due(x.info(0, -1, 0), 1);
    }

    private static void sixteenObjectsGoAtOnce() {
        Check.part("sixteen objects go at once");
        HandleKernel x = new HandleKernel();
        x.make(0, CHANNEL);
        due(x.spawn(0, 1), 1);
        due(x.send(0, 0, 1, 1, -1), OK);
        due(x.receive(1, 0), 1);
        due(x.make(1, CHANNEL), 16 * 3 + 2);
        for (int i = 0; i < 4; i++) {
            due(x.make(1, EVENT), 4);
            due(x.make(1, EVENT), 5);
            due(x.send(1, 2, 1, 4, 5), OK);
        }
        for (int place = 4; place < 7; place++) {
            due(x.make(1, EVENT), place);
        }
        due(x.info(0, -1, 0), 16);
        due(x.info(0, 0, 3), 0);
        due(x.close(0, 0), OK);
        due(x.info(0, -1, 0), 15);
        due(x.make(1, EVENT), 7);
        due(x.info(0, -1, 0), 16);
        due(x.kill(1, 1), OK);
        due(x.info(0, -1, 0), 0);
        due(x.info(0, -1, 2), 1);
        due(x.info(0, -1, 3), 17);
    }

    private static void twelveWatchesEndAtOnce() {
        Check.part("twelve watches end at once");
        HandleKernel x = new HandleKernel();
        x.make(0, PORT);
        x.make(0, PORT);
        x.make(0, EVENT);
        for (int key = 0; key < 12; key++) {
            due(x.watch(0, 2, key % 2, 1, key), OK);
        }
        due(x.info(0, -1, 1), 12);
        due(x.signal(0, 2, 0, true), 1);
        due(x.info(0, -1, 1), 0);
        for (int key = 0; key < 12; key++) {
            due(x.packet(0, key % 2, 0), key);
        }
    }
}
