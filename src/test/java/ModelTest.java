import java.util.ArrayDeque;
import java.util.ArrayList;
import java.util.Deque;
import java.util.List;
import java.util.Map;
import java.util.TreeMap;

/**
 * Runs of calls, drawn by a generator with a fixed start, on the program and on a model that is written with
 * objects and lists, as the document tells it. No run is longer than the 512 calls that the document allows.
 */
public final class ModelTest {
    private static final int RUNS = 6000, CALLS = 512;
    private static final int OK = 0, NO_PROCESS = -1, BAD_HANDLE = -2, WRONG_KIND = -3, NO_RIGHT = -4, FULL = -5;
    private static final int NO_ROOM = -6, CLOSED = -7, EMPTY = -8, BAD_VALUE = -9;
    private static final long LONG_REFUSAL = 10000000000L;
    private static final String[] NAMES = {
        "make", "copy", "restrict", "close", "signal", "send", "receive", "got", "load", "store", "twin", "watch",
        "packet", "spawn", "kill", "info",
    };
    /** Every answer below 0 that the document names for a method; each must come in the runs. */
    private static final int[][] REFUSALS = {
        {NO_PROCESS, BAD_VALUE, FULL, NO_ROOM},
        {NO_PROCESS, BAD_HANDLE, NO_RIGHT, NO_ROOM},
        {NO_PROCESS, BAD_HANDLE},
        {NO_PROCESS, BAD_HANDLE},
        {NO_PROCESS, BAD_HANDLE, WRONG_KIND, NO_RIGHT, BAD_VALUE},
        {NO_PROCESS, BAD_HANDLE, WRONG_KIND, NO_RIGHT, BAD_VALUE, CLOSED, FULL},
        {NO_PROCESS, BAD_HANDLE, WRONG_KIND, NO_RIGHT, EMPTY, CLOSED, NO_ROOM},
        {},
        {NO_PROCESS, BAD_HANDLE, WRONG_KIND, NO_RIGHT, BAD_VALUE},
        {NO_PROCESS, BAD_HANDLE, WRONG_KIND, NO_RIGHT, BAD_VALUE},
        {NO_PROCESS, BAD_HANDLE, WRONG_KIND, NO_RIGHT, FULL, NO_ROOM},
        {NO_PROCESS, BAD_HANDLE, WRONG_KIND, NO_RIGHT, FULL},
        {NO_PROCESS, BAD_HANDLE, WRONG_KIND, NO_RIGHT, BAD_VALUE, EMPTY},
        {NO_PROCESS, BAD_HANDLE, NO_RIGHT, BAD_VALUE, FULL, NO_ROOM},
        {NO_PROCESS, BAD_HANDLE, WRONG_KIND, NO_RIGHT, EMPTY},
        {NO_PROCESS, BAD_HANDLE, BAD_VALUE},
    };
    private static final int[] EDGES = {
        -2, -1, 0, 1, 2, 3, 4, 7, 8, 9, 10, 11, 16, 63, 64, 2047, 2048, Integer.MIN_VALUE, Integer.MAX_VALUE,
    };

    private static final Map<String, Integer> seen = new TreeMap<>();

    public static void main(String[] args) {
        for (int seed = 0; seed < RUNS; seed++) {
            if (!run(seed)) {
                break;
            }
        }
        Check.part("the runs");
        for (int i = 0; i < NAMES.length; i++) {
            for (int refusal : REFUSALS[i]) {
                Check.holds(seen.containsKey(NAMES[i] + " " + refusal), NAMES[i] + " never answered " + refusal);
            }
            Check.holds(seen.containsKey(NAMES[i] + " ok"), NAMES[i] + " was always refused");
        }
        Check.end();
    }

    private static boolean run(int seed) {
        Draw draw = new Draw(seed);
        int[] weights = new int[NAMES.length];
        for (int i = 0; i < weights.length; i++) {
            weights[i] = 1 + draw.below(8);
        }
        // Where handles are closed and processes killed often, nothing grows to its bounds.
        weights[2] = 1;
        weights[3] = 1 + draw.below(5);
        weights[14] = 1 + draw.below(2);
        HandleKernel program = new HandleKernel();
        Model model = new Model();
        List<String> calls = new ArrayList<>();
        for (int i = 0; i < CALLS; i++) {
            int method = draw.weighted(weights);
            int[] a = arguments(draw, model, method);
            long got = callProgram(program, method, a);
            long due = callModel(model, method, a);
            calls.add(tell(method, a) + " -> " + got);
            long refusal = due < -LONG_REFUSAL / 2 ? due + LONG_REFUSAL : due;
            boolean value = method == 7 || method == 8 && due > -LONG_REFUSAL / 2 || method == 12 && due > -LONG_REFUSAL / 2;
            seen.merge(NAMES[method] + " " + (value || refusal >= 0 ? "ok" : refusal), 1, Integer::sum);
            if (got != due) {
                for (String call : calls) {
                    System.out.println(call);
                }
                Check.part("run " + seed + ", call " + i);
                Check.due(got, due);
                return false;
            }
        }
        return true;
    }

    private static String tell(int method, int[] a) {
        StringBuilder text = new StringBuilder(NAMES[method] + "(");
        for (int i = 0; i < arity(method); i++) {
            text.append(i == 0 ? "" : ", ").append(a[i]);
        }
        return text + ")";
    }

    private static int arity(int method) {
        return new int[] {2, 3, 3, 2, 4, 5, 2, 2, 3, 4, 2, 5, 3, 2, 2, 3}[method];
    }

    private static int[] arguments(Draw draw, Model m, int method) {
        int process = m.drawRunning(draw);
        int[] a = {process, 0, 0, 0, 0};
        switch (method) {
            case 0 -> a[1] = draw.below(4);
            case 1, 2 -> set(a, m.drawHandle(draw, process, -1), draw.below(4) == 0 ? draw.below(128) : 63 - (1 << draw.below(12)));
            case 3 -> set(a, m.drawHandle(draw, process, -1));
            case 4 -> set(a, m.drawHandle(draw, process, 0), draw.below(8), draw.below(2));
            case 5 -> set(a, m.drawHandle(draw, process, 1), draw.next(), m.drawSent(draw, process), m.drawSent(draw, process));
            case 6 -> set(a, m.drawHandle(draw, process, 1));
            case 7 -> a[1] = draw.below(3);
            case 8 -> set(a, m.drawHandle(draw, process, 2), draw.below(8));
            case 9 -> set(a, m.drawHandle(draw, process, 2), draw.below(8), draw.next());
            case 10 -> set(a, m.drawHandle(draw, process, 2));
            case 11 -> set(a, m.drawHandle(draw, process, -1), m.drawHandle(draw, process, 3), draw.bits(), draw.below(1000));
            case 12 -> set(a, m.drawHandle(draw, process, 3), draw.below(4));
            case 13 -> a[1] = m.drawSent(draw, process);
            case 14 -> set(a, m.drawHandle(draw, process, 4));
            default -> set(a, draw.below(4) == 0 ? -1 : m.drawHandle(draw, process, -1), draw.below(6));
        }
        if (draw.below(16) == 0) {
            a[draw.below(arity(method))] = EDGES[draw.below(EDGES.length)];
        }
        if (draw.below(400) == 0) {
            a[draw.below(arity(method))] = draw.next();
        }
        return a;
    }

    private static void set(int[] a, int... rest) {
        System.arraycopy(rest, 0, a, 1, rest.length);
    }

    private static long callProgram(HandleKernel x, int method, int[] a) {
        return switch (method) {
            case 0 -> x.make(a[0], a[1]);
            case 1 -> x.copy(a[0], a[1], a[2]);
            case 2 -> x.restrict(a[0], a[1], a[2]);
            case 3 -> x.close(a[0], a[1]);
            case 4 -> x.signal(a[0], a[1], a[2], a[3] != 0);
            case 5 -> x.send(a[0], a[1], a[2], a[3], a[4]);
            case 6 -> x.receive(a[0], a[1]);
            case 7 -> x.got(a[0], a[1]);
            case 8 -> x.load(a[0], a[1], a[2]);
            case 9 -> x.store(a[0], a[1], a[2], a[3]);
            case 10 -> x.twin(a[0], a[1]);
            case 11 -> x.watch(a[0], a[1], a[2], a[3], a[4]);
            case 12 -> x.packet(a[0], a[1], a[2]);
            case 13 -> x.spawn(a[0], a[1]);
            case 14 -> x.kill(a[0], a[1]);
            default -> x.info(a[0], a[1], a[2]);
        };
    }

    private static long callModel(Model x, int method, int[] a) {
        if (method == 7) {
            return x.got(a[0], a[1]);
        }
        boolean isLong = method == 8 || method == 12;
        try {
            x.mustRun(a[0]);
            return switch (method) {
                case 0 -> x.make(a[0], a[1]);
                case 1 -> x.copy(a[0], a[1], a[2]);
                case 2 -> x.handle(a[0], a[1], -1, 0).rights &= a[2];
                case 3 -> x.close(a[0], a[1]);
                case 4 -> x.signal(x.handle(a[0], a[1], 0, 2).object, a[2], a[3] != 0);
                case 5 -> x.send(a[0], a[1], a[2], a[3], a[4]);
                case 6 -> x.receive(a[0], a[1]);
                case 8 -> x.cells(a[0], a[1], a[2], 1)[a[2]];
                case 9 -> x.store(x.cells(a[0], a[1], a[2], 2), a[2], a[3]);
                case 10 -> x.twin(a[0], a[1]);
                case 11 -> x.watch(a[0], a[1], a[2], a[3], a[4]);
                case 12 -> x.packet(a[0], a[1], a[2]);
                case 13 -> x.spawn(a[0], a[1]);
                case 14 -> x.kill(a[0], a[1]);
                default -> x.info(a[0], a[1], a[2]);
            };
        } catch (Refusal refusal) {
            return isLong ? refusal.code - LONG_REFUSAL : refusal.code;
        }
    }

    /** A source of numbers that are the same at each run of the test. */
    private static final class Draw {
        private long state;

        Draw(int seed) {
            state = seed * 0x9E3779B97F4A7C15L + 12345;
            next();
        }

        int next() {
            state = state * 6364136223846793005L + 1442695040888963407L;
            return (int) (state >>> 32);
        }

        int below(int bound) {
            return (next() >>> 1) % bound;
        }

        int bits() {
            return below(3) == 0 ? next() : 1 << below(11) | 1 << below(11);
        }

        int weighted(int[] weights) {
            int sum = 0;
            for (int weight : weights) {
                sum += weight;
            }
            int at = below(sum);
            int i = 0;
            while (at >= weights[i]) {
                at -= weights[i];
                i++;
            }
            return i;
        }
    }

    private static final class Refusal extends RuntimeException {
        private static final long serialVersionUID = 1;
        final int code;

        Refusal(int code) {
            super(null, null, false, false);
            this.code = code;
        }
    }

    private static final class Thing {
        final int number;
        final int kind;
        int signals;
        Thing peer;
        int process = -1;
        final int[] cells = new int[8];
        final Deque<Message> messages = new ArrayDeque<>();
        final Deque<int[]> packets = new ArrayDeque<>();

        Thing(int number, int kind) {
            this.number = number;
            this.kind = kind;
        }

        int signalsNow() {
            return signals | (messages.isEmpty() && packets.isEmpty() ? 0 : 256);
        }
    }

    private static final class Handle {
        final Thing object;
        int rights;

        Handle(Thing object, int rights) {
            this.object = object;
            this.rights = rights;
        }
    }

    private record Message(int value, Handle a, Handle b) {
    }

    private record Watch(Thing object, int bits, Thing port, int key) {
    }

    private static final class Model {
        private final List<Thing> objects = new ArrayList<>();
        private final List<Watch> watches = new ArrayList<>();
        private final Handle[][] places = new Handle[4][10];
        private final boolean[] running = {true, false, false, false};
        private final int[][] gotten = {{0, -1, -1}, {0, -1, -1}, {0, -1, -1}, {0, -1, -1}};
        private int made = 0;

        int drawRunning(Draw draw) {
            int process = draw.below(4);
            return running[process] || draw.below(20) == 0 ? process : 0;
        }

        int drawHandle(Draw draw, int process, int kind) {
            List<Integer> fit = new ArrayList<>();
            List<Integer> there = new ArrayList<>();
            for (int place = 0; place < 10; place++) {
                Handle handle = places[process][place];
                if (handle != null) {
                    there.add(place);
                    if (kind == -1 || handle.object.kind == kind) {
                        fit.add(place);
                    }
                }
            }
            List<Integer> from = fit.isEmpty() || draw.below(15) == 0 ? there : fit;
            return from.isEmpty() || draw.below(30) == 0 ? draw.below(10) : from.get(draw.below(from.size()));
        }

        int drawSent(Draw draw, int process) {
            return draw.below(2) == 0 ? -1 : drawHandle(draw, process, -1);
        }

        private static void refuse(boolean condition, int code) {
            if (condition) {
                throw new Refusal(code);
            }
        }

        void mustRun(int process) {
            refuse(process < 0 || process > 3 || !running[process], NO_PROCESS);
        }

        Handle handle(int process, int place, int kind, int rights) {
            refuse(place < 0 || place > 9 || places[process][place] == null, BAD_HANDLE);
            Handle handle = places[process][place];
            refuse(kind >= 0 && handle.object.kind != kind, WRONG_KIND);
            refuse((rights & ~handle.rights) != 0, NO_RIGHT);
            return handle;
        }

        private Handle sent(int process, int place) {
            return place == -1 ? null : handle(process, place, -1, 8);
        }

        private int free(int process) {
            int count = 0;
            for (Handle handle : places[process]) {
                count += handle == null ? 1 : 0;
            }
            return count;
        }

        private int put(int process, Handle handle) {
            int place = 0;
            while (places[process][place] != null) {
                place++;
            }
            places[process][place] = handle;
            return place;
        }

        private Thing thing(int kind) {
            Thing thing = new Thing(made++, kind);
            objects.add(thing);
            return thing;
        }

        int make(int process, int kind) {
            refuse(kind < 0 || kind > 3, BAD_VALUE);
            int count = kind == 1 ? 2 : 1;
            refuse(objects.size() > 16 - count, FULL);
            refuse(free(process) < count, NO_ROOM);
            Thing first = thing(kind);
            int place = put(process, new Handle(first, 63));
            if (kind == 1) {
                Thing second = thing(kind);
                first.peer = second;
                second.peer = first;
                place += 16 * put(process, new Handle(second, 63));
            }
            return place;
        }

        int copy(int process, int place, int rights) {
            Handle handle = handle(process, place, -1, 4);
            refuse(free(process) == 0, NO_ROOM);
            return put(process, new Handle(handle.object, handle.rights & rights & 63));
        }

        int close(int process, int place) {
            handle(process, place, -1, 0);
            places[process][place] = null;
            sweep();
            return OK;
        }

        int signal(Thing event, int signal, boolean on) {
            refuse(signal < 0 || signal > 7, BAD_VALUE);
            event.signals = on ? event.signals | 1 << signal : event.signals & ~(1 << signal);
            settle();
            return event.signals;
        }

        int send(int process, int place, int v, int a, int b) {
            Thing end = handle(process, place, 1, 2).object;
            Message message = new Message(v, sent(process, a), sent(process, b));
            refuse(a == b && a != -1 || a == place || b == place, BAD_VALUE);
            refuse(end.peer == null, CLOSED);
            refuse(end.peer.messages.size() == 4, FULL);
            end.peer.messages.add(message);
            for (int moved : new int[] {a, b}) {
                if (moved != -1) {
                    places[process][moved] = null;
                }
            }
            settle();
            return OK;
        }

        int receive(int process, int place) {
            Thing end = handle(process, place, 1, 1).object;
            refuse(end.messages.isEmpty(), end.peer == null ? CLOSED : EMPTY);
            Message message = end.messages.peek();
            int count = (message.a == null ? 0 : 1) + (message.b == null ? 0 : 1);
            refuse(free(process) < count, NO_ROOM);
            end.messages.remove();
            gotten[process][0] = message.value;
            gotten[process][1] = message.a == null ? -1 : put(process, message.a);
            gotten[process][2] = message.b == null ? -1 : put(process, message.b);
            return count;
        }

        int got(int process, int what) {
            if (what < 0 || what > 2) {
                return 0;
            }
            return process >= 0 && process <= 3 ? gotten[process][what] : what == 0 ? 0 : -1;
        }

        int[] cells(int process, int place, int cell, int rights) {
            Thing memory = handle(process, place, 2, rights).object;
            refuse(cell < 0 || cell > 7, BAD_VALUE);
            return memory.cells;
        }

        int store(int[] cells, int cell, int v) {
            cells[cell] = v;
            return OK;
        }

        int twin(int process, int place) {
            Thing memory = handle(process, place, 2, 5).object;
            refuse(objects.size() == 16, FULL);
            refuse(free(process) == 0, NO_ROOM);
            Thing twin = thing(2);
            System.arraycopy(memory.cells, 0, twin.cells, 0, 8);
            return put(process, new Handle(twin, 63));
        }

        int watch(int process, int place, int port, int bits, int key) {
            Thing object = handle(process, place, -1, 16).object;
            Thing to = handle(process, port, 3, 2).object;
            refuse(watches.size() == 12, FULL);
            watches.add(new Watch(object, bits & 2047, to, key));
            settle();
            return OK;
        }

        long packet(int process, int place, int part) {
            Thing port = handle(process, place, 3, 1).object;
            refuse(part < 0 || part > 3, BAD_VALUE);
            if (part == 3) {
                return port.packets.size();
            }
            refuse(port.packets.isEmpty(), EMPTY);
            return port.packets.remove()[part];
        }

        int spawn(int process, int a) {
            Handle moved = sent(process, a);
            int child = 0;
            while (child < 4 && (running[child] || belongs(child))) {
                child++;
            }
            refuse(child == 4, BAD_VALUE);
            refuse(objects.size() == 16, FULL);
            refuse(a == -1 && free(process) == 0, NO_ROOM);
            if (a != -1) {
                places[process][a] = null;
            }
            running[child] = true;
            gotten[child] = new int[] {0, -1, -1};
            places[child][0] = moved;
            Thing object = thing(4);
            object.process = child;
            return put(process, new Handle(object, 63));
        }

        private boolean belongs(int process) {
            return objects.stream().anyMatch(object -> object.process == process);
        }

        int kill(int process, int place) {
            Thing object = handle(process, place, 4, 32).object;
            refuse(!running[object.process], EMPTY);
            running[object.process] = false;
            object.signals = 1024;
            settle();
            places[object.process] = new Handle[10];
            sweep();
            return OK;
        }

        int info(int process, int place, int what) {
            if (place == -1) {
                refuse(what < 0 || what > 3, BAD_VALUE);
                int bits = 0;
                for (int k = 0; k < 4; k++) {
                    bits += running[k] ? 1 << k : 0;
                }
                return new int[] {objects.size(), watches.size(), bits, made}[what];
            }
            Handle handle = handle(process, place, -1, 0);
            refuse(what < 0 || what > 5, BAD_VALUE);
            Thing object = handle.object;
            int peer = object.peer == null ? -1 : object.peer.number;
            int[] answers = {object.kind, object.number, handle.rights, object.signalsNow(), references(object), peer};
            return answers[what];
        }

        private int references(Thing object) {
            int count = 0;
            for (Handle[] row : places) {
                for (Handle handle : row) {
                    count += refers(handle, object);
                }
            }
            for (Thing end : objects) {
                for (Message message : end.messages) {
                    count += refers(message.a, object) + refers(message.b, object);
                }
            }
            return count;
        }

        private static int refers(Handle handle, Thing object) {
            return handle != null && handle.object == object ? 1 : 0;
        }

        /** The list of objects is in the order of their numbers, so the first one found has the least. */
        private void sweep() {
            boolean again = true;
            while (again) {
                again = false;
                for (Thing object : objects) {
                    if (references(object) == 0) {
                        destroy(object);
                        again = true;
                        break;
                    }
                }
            }
        }

        private void destroy(Thing object) {
            watches.removeIf(watch -> watch.object == object || watch.port == object);
            if (object.peer != null) {
                object.peer.peer = null;
                object.peer.signals |= 512;
                settle();
            }
            objects.remove(object);
        }

        private void settle() {
            boolean again = true;
            while (again) {
                again = false;
                for (Watch watch : watches) {
                    int signals = watch.object.signalsNow();
                    if ((signals & watch.bits) != 0) {
                        watches.remove(watch);
                        if (watch.port.packets.size() < 6) {
                            watch.port.packets.add(new int[] {watch.key, watch.object.number, signals});
                        }
                        again = true;
                        break;
                    }
                }
            }
        }
    }
}
