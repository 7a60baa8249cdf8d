import java.util.ArrayList;
import java.util.List;

/**
 * Objects as they stand, fresh and behind other calls, for the tests of edges: a call that is refused, or that only
 * looks, must leave each of them as it was. What must be left is looked at on a twin that went through all but that call.
 * No object here is used for more than 512 calls.
 */
final class Scenes {
    static final String FIRST =
        "ra,5,1;rb,0,2;rab,12,0;rba,7,3;rc,3,0;rcd,20,2;rd,1,1;rdab,40,0;k0,2,5;k1,1,3;k2,3,12;k3,1,0;k4,4,8;wabacdab;v18,4,3;g25;";
    /** 200 letters, without FAULT; THE TEXT of the scene that is full. */
    static final String LONGEST = "re,2,1;rd,0,3;k0,1,7;k3,2,9;we;" + "g8;".repeat(55) + "g07;";

    interface Call {
        int on(WallReadings x);
    }

    interface Deed {
        void on(WallReadings x);
    }

    enum Scene {
        FRESH {
            @Override
            WallReadings make() {
                return new WallReadings();
            }
        },
        /** Another TEXT laid, which stays THE TEXT. */
        TOLD {
            @Override
            WallReadings make() {
                WallReadings x = new WallReadings();
                put(x, "ra,2,1;rb,0,2;rc,3,0;k0,1,2;k2,2,3;wabc;v9,2,2;g7;");
                x.lay();
                return x;
            }
        },
        /** A bit of all that can be done, and a TEXT with a FAULT. */
        BUSY {
            @Override
            WallReadings make() {
                WallReadings x = new WallReadings();
                x.ask(3);
                x.keep();
                x.carve(2);
                x.rub();
                x.rub();
                x.see(1, 12);
                x.pass(2);
                x.pass(3);
                x.undo();
                x.carve(1);
                put(x, "g5;r");
                return x;
            }
        },
        SHUT {
            @Override
            WallReadings make() {
                WallReadings x = new WallReadings();
                x.ask(3);
                x.ask(1);
                x.shut();
                x.pass(24);
                return x;
            }
        },
        FALLEN {
            @Override
            WallReadings make() {
                WallReadings x = new WallReadings();
                x.ask(2);
                x.pass(7);
                x.see(0, 5);
                return x;
            }
        },
        /** As much of all as there can be. */
        FULL {
            @Override
            WallReadings make() {
                WallReadings x = new WallReadings();
                x.carve(0);
                x.keep();
                x.carve(2);
                x.keep();
                for (int n = 0; n < 8; n++) {
                    x.pass(1 + n % 2);
                }
                for (int n = 0; n < 6; n++) {
                    x.see(n % 2, 12);
                }
                put(x, LONGEST);
                return x;
            }
        },
        /** Nothing written, no GOLD, nobody who can be paid. */
        POOR {
            @Override
            WallReadings make() {
                WallReadings x = new WallReadings();
                put(x, "ra,1,1;k0,1,1;k1,1,60;g0;");
                x.lay();
                x.wipe();
                return x;
            }
        },
        BACK {
            @Override
            WallReadings make() {
                WallReadings x = new WallReadings();
                x.pass(1);
                x.keep();
                x.ask(3);
                x.carve(3);
                x.keep();
                x.shut();
                x.see(4, 3);
                x.back();
                return x;
            }
        };

        abstract WallReadings make();
    }

    private Scenes() {
    }

    static void put(WallReadings x, String text) {
        for (int i = 0; i < text.length(); i++) {
            x.write(text.charAt(i));
        }
    }

    /** In each scene: the call is answered so, and leaves all as it was. */
    static void refuse(String name, Call call, int due) {
        for (Scene scene : Scene.values()) {
            refuseIn(scene, name, call, due);
        }
    }

    static void refuseIn(Scene scene, String name, Call call, int due) {
        refuseBehind(scene, x -> { }, name, call, due);
    }

    /** The same in a scene, behind what is done there first. */
    static void refuseBehind(Scene scene, Deed first, String name, Call call, int due) {
        for (int way = 0; way < 3; way++) {
            WallReadings x = scene.make();
            WallReadings twin = scene.make();
            first.on(x);
            first.on(twin);
            String where = name + " in " + scene;
            Due.is(where, call.on(x), due);
            Due.are("left as it was by " + where, shown(x, way), shown(twin, way));
        }
    }

    /** In each scene: the call answers the same twice, and leaves all as it was. */
    static void look(String name, Call call) {
        for (Scene scene : Scene.values()) {
            int answer = call.on(scene.make());
            refuseIn(scene, name, call, answer);
            WallReadings x = scene.make();
            call.on(x);
            Due.is(name + " twice in " + scene, call.on(x), answer);
        }
    }

    /** All that an object shows, in one of three ways: each uses it up. */
    private static int[] shown(WallReadings x, int way) {
        List<Integer> all = new ArrayList<>();
        if (way == 2) {
            addThoughts(x, all);
        } else {
            addLaid(x, all);
            addPast(x, way == 0, all);
            all.add(x.fault());
            all.add(x.lay());
            addCounts(x, all);
            all.add(x.root(0, 0));
        }
        return all.stream().mapToInt(Integer::intValue).toArray();
    }

    private static void addCounts(WallReadings x, List<Integer> all) {
        for (int count : Due.counts(x)) {
            all.add(count);
        }
    }

    /** What can be UNDONE, or what is KEPT, moment by moment. */
    private static void addPast(WallReadings x, boolean byUndo, List<Integer> all) {
        addMoment(x, all);
        for (int n = 0; n < 9; n++) {
            int left = byUndo ? x.undo() : x.back();
            all.add(left);
            if (left < 0) {
                break;
            }
            addMoment(x, all);
        }
    }

    /** What may be, by all READERS, and then what comes of asking and shutting. */
    private static void addThoughts(WallReadings x, List<Integer> all) {
        int readers = x.count(1);
        for (int k = 0; k < readers; k++) {
            all.add(x.tells(k, 0));
            all.add(x.belief(k, 1, 0));
            all.add(x.belief(k, 1, 1));
            all.add(x.without(k));
            all.add(x.shortest(k, 0));
            all.add(x.until(k));
            all.add(x.forgotten(k, 3, 0));
            all.add(x.forgotten(k, 3, 1));
            all.add(x.walls(77, 40, k, 1));
        }
        for (int verbs = 2; verbs <= 14; verbs += 2) {
            for (int what = 0; what < 3; what++) {
                all.add(x.enough(verbs, what));
            }
        }
        all.add(x.shut());
        for (int k = 0; k < readers; k++) {
            all.add(x.ask(k));
            all.add(x.shut());
            all.add(x.pass(3));
        }
        addCounts(x, all);
    }

    private static void addLaid(WallReadings x, List<Integer> all) {
        addCounts(x, all);
        int roots = x.count(0);
        for (int r = 0; r < roots; r++) {
            for (int what = 0; what < 3; what++) {
                all.add(x.root(r, what));
            }
        }
        int readers = x.count(1);
        for (int k = 0; k < readers; k++) {
            for (int what = 0; what < 4; what++) {
                all.add(x.reader(k, what));
            }
            all.add(x.tells(k, 1));
        }
        all.add(x.wrote(0));
        all.add(x.wrote(1));
    }

    /** What a moment holds; what is written shows by the WORDS of the first READING. */
    private static void addMoment(WallReadings x, List<Integer> all) {
        int letters = x.count(2);
        all.add(letters);
        int[] whats = {3, 4, 7, 8};
        for (int what : whats) {
            all.add(x.count(what));
        }
        for (int j = 0; j < letters; j++) {
            all.add(x.word(0, 0, j));
        }
    }
}
