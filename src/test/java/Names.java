/** The document's numbers by name, for the tests that write them often. */
interface Names {
    int OK = HandleKernel.OK, NO_PROCESS = HandleKernel.NO_PROCESS, BAD_HANDLE = HandleKernel.BAD_HANDLE;
    int WRONG_KIND = HandleKernel.WRONG_KIND, NO_RIGHT = HandleKernel.NO_RIGHT, FULL = HandleKernel.FULL;
    int NO_ROOM = HandleKernel.NO_ROOM, CLOSED = HandleKernel.CLOSED, EMPTY = HandleKernel.EMPTY;
    int BAD_VALUE = HandleKernel.BAD_VALUE;
    int EVENT = 0, CHANNEL = 1, END = 1, MEMORY = 2, PORT = 3, PROCESS = 4;
    int READ = 1, WRITE = 2, COPY = 4, SEND = 8, WATCH = 16, MANAGE = 32, ALL = 63;
    int READABLE = 256, PEER_CLOSED = 512, DEAD = 1024;
    int LEAST = Integer.MIN_VALUE, MOST = Integer.MAX_VALUE;
    long LONG_REFUSAL = -10000000000L;
}
