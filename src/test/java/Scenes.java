/** Kernels in the states from which several tests start. */
final class Scenes implements Names {
    private Scenes() {
    }

    /** Process 0 has no handles; process 1 has its places full, and holds all objects but for those that are left. */
    static HandleKernel crowded(int left) {
        HandleKernel x = new HandleKernel();
        x.spawn(0, -1);
        x.close(0, 0);
        x.make(1, CHANNEL);
        for (int i = 0; i < 6 - left; i++) {
            x.make(1, EVENT);
            x.send(1, i < 4 ? 0 : 1, i, 2, -1);
        }
        for (int place = 2; place < 10; place++) {
            x.make(1, EVENT);
        }
        return x;
    }

    /** Fills the places of process 0 with copies of a handle, but for some that stay free. */
    static void fillPlaces(HandleKernel x, int handle, int free) {
        int used = 0;
        for (int place = 0; place < 10; place++) {
            used += x.info(0, place, 0) == BAD_HANDLE ? 0 : 1;
        }
        for (int i = used; i < 10 - free; i++) {
            x.copy(0, handle, ALL);
        }
    }

    /**
     * Process 0 has the two ends 0 and 1, for each of which a message waits, event 2 with signal 0, memory 3,
     * port 4 with a packet, and at 5 the object of process 1, which runs without handles.
     */
    static HandleKernel oneOfEach() {
        HandleKernel x = new HandleKernel();
        x.make(0, CHANNEL);
        x.make(0, EVENT);
        x.make(0, MEMORY);
        x.make(0, PORT);
        x.spawn(0, -1);
        x.send(0, 0, 71, -1, -1);
        x.send(0, 1, 70, -1, -1);
        x.signal(0, 2, 0, true);
        x.watch(0, 2, 4, 1, 72);
        return x;
    }
}
