import java.util.ArrayList;
import java.util.List;

/**
 * Each call changes what its promise says, and nothing else: of objects that have some of everything, none of it as at
 * first, all that can be seen is looked at behind each call.
 */
public final class NothingElseTest {
    private static final int HEIRS = 5;
    private static final int[][] SEEN = {{3, 12, 0}, {1, 2, 1}, {0, 4, 0}};

    /** What is done with a new object up to where the call is tried. */
    private static final class Life {
        final String name;
        final boolean bothImages;
        final List<Due.Call> last;
        final int[] moved;
        int prelude = -1;

        Life(String name, boolean bothImages, int[] moved, List<Due.Call> last) {
            this.name = name;
            this.bothImages = bothImages;
            this.moved = moved;
            this.last = last;
        }

        FoundLast make() {
            return makeWithout(0);
        }

        /** Without the last calls, so many of them. */
        FoundLast makeWithout(int left) {
            FoundLast x = new FoundLast();
            fraction(x);
            refusals(x);
            house(x);
            x.night();
            x.image(0);
            if (bothImages) {
                x.move(4, 5);
                x.seen(6, 6, 0);
                x.image(1);
                x.undo();
            }
            x.forget();
            for (int[] s : SEEN) {
                x.seen(s[0], s[1], s[2]);
            }
            x.eyes(8);
            for (int i = 0; i < last.size() - left; i++) {
                last.get(i).on(x);
            }
            return x;
        }

        /** The chance of one alone in the room into which he looks; 7 by 25 if nothing else is asked for. */
        private void fraction(FoundLast x) {
            if (prelude == 0) {
                return;
            }
            int hidden = 25 - (prelude < 0 ? 7 : prelude);
            int stayed = hidden > 18 ? 5 : 0;
            x.house(0, 0);
            x.room(0, (hidden - stayed) / 2);
            x.heir(3, 0, hidden - stayed - (hidden - stayed) / 2);
            Due.after(x, stayed).odds(0);
        }

        private void refusals(FoundLast x) {
            x.only(8);
            x.only(9);
            x.undo();
            x.from(1);
            x.from(0);
            for (int i = 0; i < 151; i++) {
                x.type(';');
            }
            x.clear();
            for (char c : "house 12 4;heir 2 3 1;".toCharArray()) {
                x.type(c);
            }
        }

        /** HIDDEN 7, 2, 6, 8, 9 at first; 3 is FOUND in NIGHT 0. */
        private void house(FoundLast x) {
            x.house(9, 2);
            x.room(0, 4);
            x.room(1, 3);
            x.room(6, 1);
            x.door(0, 1, 2);
            x.door(1, 2, 3);
            x.door(2, 6, 4);
            x.door(4, 5, 6);
            x.only(3);
            x.list(0);
            x.list(2);
            x.list(6);
            x.heir(3, 2, 2);
            x.heir(5, 1, 0);
            x.heir(1, 0, 5);
            x.heir(2, 3, 3);
            x.heir(4, 4, 9);
        }
    }

    /** All that a digest is made of. */
    private static final class Values {
        final int[] counts = new int[9];
        final int[] hides = new int[8];
        final int[][] doors = new int[8][8];
        final List<Integer> list = new ArrayList<>();
        final List<int[]> heirs = new ArrayList<>();
        final List<int[]> seen = new ArrayList<>();
        long above;
        long below;

        /** As an object shows them, which is used up. */
        Values(FoundLast x, int[] moved, int[][] seenThen) {
            for (int i = 0; i < counts.length; i++) {
                counts[i] = x.count(i);
            }
            for (int h = 0; h < counts[0]; h++) {
                heirs.add(new int[] {x.of(h, 0), x.of(h, 1), x.of(h, 2), x.of(h, 3), x.of(h, 5), x.of(h, 6),
                    h < moved.length ? moved[h] : 0});
            }
            for (int place = 0; place < counts[5]; place++) {
                int night = place % 7 == 6 ? place + counts[5] : place;
                list.add(x.looks(night));
            }
            above = x.part(0);
            below = x.part(1);
            for (int r = 0; r < 8; r++) {
                hides[r] = x.room(r, 0);
                for (int b = r + 1; b < 8; b++) {
                    doors[r][b] = x.door(r, b, 1);
                }
            }
            for (int[] s : seenThen) {
                seen.add(s);
            }
        }

        long digest() {
            List<Long> all = new ArrayList<>();
            put(all, counts);
            put(all, hides);
            for (int a = 0; a < 8; a++) {
                for (int b = a + 1; b < 8; b++) {
                    all.add((long) doors[a][b]);
                }
            }
            for (int room : list) {
                all.add((long) room);
            }
            for (int[] heir : heirs) {
                put(all, heir);
            }
            for (int[] s : seen) {
                put(all, s);
            }
            all.add(above);
            all.add(below);
            long h = 1033;
            for (long v : all) {
                h = 31 * h + v;
            }
            return h;
        }

        private static void put(List<Long> all, int[] some) {
            for (int v : some) {
                all.add((long) v);
            }
        }
    }

    /** All that can be seen of an object, which is used up by it. */
    private static final class Shown {
        final List<Long> status = new ArrayList<>();
        final List<Long> now = new ArrayList<>();
        final List<Long> text = new ArrayList<>();
        final List<List<Long>> images = new ArrayList<>();

        Shown(FoundLast x) {
            for (int i = 0; i < 3; i++) {
                status.add((long) x.status(i));
            }
            back(x, now);
            text.add((long) x.read());
            text.add(x.digest());
            for (int i = 0; i < 2; i++) {
                List<Long> image = new ArrayList<>();
                if (x.from(i) == 1) {
                    back(x, image);
                }
                images.add(image);
            }
        }

        private static void back(FoundLast x, List<Long> all) {
            all.add(x.digest());
            for (int i = 0; i < 9; i++) {
                all.add((long) x.undo());
                all.add(x.digest());
            }
        }

        void is(String name, Shown due) {
            Due.is(name + ": STATUS", status.equals(due.status) ? 1 : 0, 1);
            Due.is(name + ": what there is, what may be undone", now.equals(due.now) ? 1 : 0, 1);
            keeps(name, due);
        }

        void keeps(String name, Shown due) {
            Due.is(name + ": THE TEXT", text.equals(due.text) ? 1 : 0, 1);
            for (int i = 0; i < 2; i++) {
                Due.is(name + ": IMAGE " + i, images.get(i).equals(due.images.get(i)) ? 1 : 0, 1);
            }
        }
    }

    interface Change {
        void on(Values v);
    }

    public static void main(String[] args) {
        for (Life life : lives()) {
            standsAsMeant(life);
            questions(life);
            fulls(life);
            toldAndBack(life);
            listAndBack(life);
            textAndBack(life);
            seenAndBack(life);
            movesAndNights(life);
            odds(life);
            heir(life);
            houseAnew(life);
            read(life);
            imageAndFrom(life);
        }
        Due.end();
    }

    /** Heir 0 is IN and STAYED, is IN and MOVED, is FOUND; 2 is FOUND in all of them, 1 is OUT in the last. */
    private static List<Life> lives() {
        List<Life> all = new ArrayList<>();
        all.add(new Life("one who stayed", true, new int[] {0, 1, 0, 0, 1},
            List.of(x -> x.night(), x -> x.move(4, 5), x -> x.move(1, 0))));
        all.add(new Life("one who moved", false, new int[] {1, 0, 0, 0, 0},
            List.of(x -> x.night(), x -> x.move(0, 6))));
        all.add(new Life("one who is found", true, new int[] {0, 0, 0, 0, 1},
            List.of(x -> x.eyes(25), x -> x.move(0, 1), x -> x.undo(), x -> x.night(), x -> x.night(),
                x -> x.eyes(7), x -> x.night(), x -> x.move(4, 5))));
        all.add(new Life("one who is out", false, new int[] {0, 0, 0, 0, 0},
            List.of(x -> x.move(1, 2), x -> x.night(), x -> x.move(1, 6), x -> x.night())));
        return all;
    }

    private static void standsAsMeant(Life life) {
        Due.sentence("the object as it is meant: " + life.name);
        FoundLast x = life.make();
        Due.is("heirs", x.count(0), HEIRS);
        Due.is("seen", x.count(6), SEEN.length);
        Due.is("may be undone, some, not all", x.count(7) > 1 && x.count(7) < 8 ? 1 : 0, 1);
        Due.is("heir 0", x.of(0, 5), life.name.equals("one who is found") ? 2 : 0);
        Due.is("heir 1", x.of(1, 5), life.name.equals("one who is out") ? 1 : 0);
        Due.is("heir 2", x.of(2, 5), 2);
        Due.is("heir 3", x.of(3, 5), 2);
        Due.is("above", x.part(0), 7);
        Due.is("status BAD", x.status(0), 2);
        Due.is("status NO", x.status(1), 3);
        Due.is("status FULL", x.status(2), 1);
        Values v = new Values(life.make(), life.moved, SEEN);
        Due.is("digest", life.make().digest(), v.digest());
        Due.is("rule", v.counts[2], 2);
        Due.is("the list", v.list.equals(List.of(3, 0, 2, 6)) ? 1 : 0, 1);
        int[] hides = {4, 3, 5, 5, 5, 5, 1, 5};
        int[][] doors = {{0, 1, 2}, {1, 2, 3}, {2, 6, 4}, {4, 5, 6}};
        int creaks = 0;
        for (int r = 0; r < 8; r++) {
            Due.is("hides " + r, v.hides[r], hides[r]);
            for (int b = r + 1; b < 8; b++) {
                creaks += v.doors[r][b];
            }
        }
        for (int[] d : doors) {
            Due.is("door", v.doors[d[0]][d[1]], d[2]);
        }
        Due.is("creaks, all", creaks, 15);
    }

    /** Behind the call all is as ahead of it, but for what was refused. */
    private static void unchanged(Life life, String name, Due.Call call) {
        FoundLast x = life.make();
        long answer = call.on(x);
        Shown due = new Shown(life.make());
        for (int i = 0; i < 3; i++) {
            if (answer == FoundLast.BAD - i) {
                due.status.set(i, due.status.get(i) + 1);
            }
        }
        new Shown(x).is(life.name + ", " + name, due);
    }

    /** What a digest is made of is as ahead of the call but for what the promise says. */
    private static void changed(Life life, String name, Due.Call call, Change change) {
        FoundLast x = life.make();
        call.on(x);
        Values due = new Values(life.make(), life.moved, SEEN);
        change.on(due);
        Due.is(life.name + ", " + name + ", then digest", x.digest(), due.digest());
    }

    private static void questions(Life life) {
        Due.sentence("(Nothing is changed by these.)");
        for (int h = 0; h <= HEIRS; h++) {
            int heir = h;
            for (int what = 0; what <= 7; what++) {
                int asked = what;
                unchanged(life, "of " + h + " " + what, x -> x.of(heir, asked));
            }
            for (int what = 0; what <= 2; what++) {
                int asked = what;
                unchanged(life, "byThen " + h, x -> x.byThen(heir, 60, asked));
                unchanged(life, "way " + h, x -> x.way(heir, asked));
            }
            unchanged(life, "hide " + h, x -> x.hide(heir));
            for (int other = 0; other < HEIRS; other++) {
                int b = other;
                unchanged(life, "choose " + h + " " + b, x -> x.choose(heir, b));
            }
        }
        for (int what = 0; what <= 9; what++) {
            int asked = what;
            unchanged(life, "count " + what, x -> x.count(asked));
            unchanged(life, "first " + what, x -> x.first(asked));
            unchanged(life, "part " + what, x -> x.part(asked));
            unchanged(life, "looks " + what, x -> x.looks(asked * 12));
            unchanged(life, "may " + what, x -> x.may(asked * 2));
            unchanged(life, "peek " + what, x -> x.peek(asked * 2));
            unchanged(life, "nights " + what, x -> x.nights(asked * 77777, asked * 3));
        }
        for (int what = 0; what <= 2; what++) {
            int asked = what;
            unchangedByStatus(life, asked);
        }
        unchanged(life, "passed", FoundLast::passed);
        unchanged(life, "ways", FoundLast::ways);
        unchangedByDigest(life);
    }

    /** Their answers may be any number: none of them is a refusal. */
    private static void unchangedByStatus(Life life, int what) {
        FoundLast x = life.make();
        x.status(what);
        new Shown(x).is(life.name + ", status " + what, new Shown(life.make()));
    }

    private static void unchangedByDigest(Life life) {
        FoundLast x = life.make();
        x.digest();
        new Shown(x).is(life.name + ", digest", new Shown(life.make()));
        // What is looked at by digest, read and undo themselves shows no image that they would keep.
        List<Due.Call> looking = List.of(FoundLast::digest, FoundLast::read, FoundLast::undo);
        for (Due.Call call : looking) {
            FoundLast y = life.make();
            call.on(y);
            Due.is(life.name + ", an image that was not kept", y.from(1), life.bothImages ? 1 : FoundLast.NO);
        }
    }

    /** Refused as FULL: filled up, one more is tried. */
    private static void fulls(Life life) {
        Due.sentence("Refused, changing nothing but STATUS: FULL -4");
        full(life, "heir", x -> x.heir(1, 6, 3));
        full(life, "list", x -> x.list(1));
        full(life, "type", x -> x.type(' '));
        full(life, "seen", x -> x.seen(1, 1, 0));
    }

    private static void full(Life life, String name, Due.Call call) {
        FoundLast x = life.make();
        FoundLast y = life.make();
        int fulls = 0;
        for (int i = 0; i < 160 && fulls < 3; i++) {
            fulls += call.on(x) == FoundLast.FULL ? 1 : 0;
            if (fulls == 0) {
                call.on(y);
            }
        }
        Due.is(life.name + ", " + name + ", so often FULL", fulls, 3);
        Shown due = new Shown(y);
        due.status.set(2, due.status.get(2) + 3);
        new Shown(x).is(life.name + ", " + name + ", FULL", due);
    }

    /** Told anew, and told as before: then all is as before. */
    private static void toldAndBack(Life life) {
        Due.sentence("promises 3, 4, 7: a ROOM, a DOOR, EYES, and nothing else");
        for (int r = 0; r < 8; r++) {
            int k = r;
            changed(life, "room", x -> x.room(k, 8), v -> v.hides[k] = 8);
            unchanged(life, "room, and back", x -> Math.max(0, x.room(k, x.room(k, 8))));
            for (int b = r + 1; b < 8; b++) {
                int other = b;
                changed(life, "door", x -> x.door(other, k, 7), v -> v.doors[k][other] = 7);
            }
        }
        unchanged(life, "door, and back", x -> Math.max(0, x.door(0, 1, x.door(1, 0, 9))));
        unchanged(life, "door, and back", x -> Math.max(0, x.door(2, 1, x.door(2, 1, 1))));
        changed(life, "eyes", x -> x.eyes(22), v -> v.counts[1] = 22);
        unchanged(life, "eyes, and back", x -> Math.max(0, x.eyes(x.eyes(22))));
    }

    private static void listAndBack(Life life) {
        Due.sentence("promises 5, 6: THE LIST, and nothing else");
        changed(life, "list", x -> x.list(7), v -> {
            v.list.add(7);
            v.counts[5]++;
        });
        changed(life, "only", x -> x.only(7), v -> {
            v.list.clear();
            v.list.add(7);
            v.counts[5] = 1;
        });
        unchanged(life, "list, and back", x -> Math.max(0, x.list(7) + listAsBefore(x)));
        unchanged(life, "only, and back", x -> Math.max(0, x.only(7) + listAsBefore(x)));
    }

    private static int listAsBefore(FoundLast x) {
        return x.only(3) + x.list(0) + x.list(2) + x.list(6);
    }

    private static void textAndBack(Life life) {
        Due.sentence("promises 9, 10: THE TEXT, and nothing else");
        changed(life, "type", x -> x.type('?'), v -> v.counts[8]++);
        changed(life, "clear", x -> x.clear(), v -> v.counts[8] = 0);
        unchanged(life, "type, and back", x -> {
            x.type('?');
            return retyped(x);
        });
        unchanged(life, "clear, and back", NothingElseTest::retyped);
    }

    private static long retyped(FoundLast x) {
        x.clear();
        for (char c : "house 12 4;heir 2 3 1;".toCharArray()) {
            x.type(c);
        }
        return 0;
    }

    private static void seenAndBack(Life life) {
        Due.sentence("promises 24, 25: SEEN, and nothing else");
        changed(life, "seen", x -> x.seen(5, 9, 1), v -> {
            v.seen.add(new int[] {5, 9, 1});
            v.counts[6]++;
        });
        changed(life, "forget", x -> x.forget(), v -> {
            v.seen.clear();
            v.counts[6] = 0;
        });
        unchanged(life, "seen, and back", x -> {
            x.seen(5, 9, 1);
            return seenAsBefore(x);
        });
        unchanged(life, "forget, and back", NothingElseTest::seenAsBefore);
    }

    private static long seenAsBefore(FoundLast x) {
        x.forget();
        for (int[] s : SEEN) {
            x.seen(s[0], s[1], s[2]);
        }
        return 0;
    }

    private static void movesAndNights(Life life) {
        Due.sentence("promises 12 to 14: a MOVE, a NIGHT, UNDO, and nothing else");
        for (int h = 0; h < HEIRS; h++) {
            int heir = h;
            for (int r = 0; r < 8; r++) {
                int room = r;
                if (life.make().move(heir, room) < 0) {
                    unchanged(life, "move refused", x -> x.move(heir, room));
                    continue;
                }
                changed(life, "move", x -> x.move(heir, room), v -> {
                    v.counts[7]++;
                    v.heirs.get(heir)[1] = room;
                    v.heirs.get(heir)[3] = 0;
                    v.heirs.get(heir)[6] = 1;
                });
                unchanged(life, "move, and undo", x -> Math.max(0, x.move(heir, room) + x.undo()));
            }
        }
        FoundLast then = life.make();
        then.night();
        changed(life, "night", FoundLast::night, v -> {
            v.counts[3]++;
            v.counts[4] = then.count(4);
            v.counts[7]++;
            for (int h = 0; h < HEIRS; h++) {
                int[] one = v.heirs.get(h);
                v.heirs.set(h, new int[] {one[0], one[1], one[2], then.of(h, 3), then.of(h, 5), then.of(h, 6), 0});
            }
        });
        unchanged(life, "night, and undo", x -> {
            x.night();
            return Math.max(0, x.undo());
        });
        FoundLast back = life.make();
        back.undo();
        new Shown(back).is(life.name + ", undo", new Shown(life.makeWithout(1)));
    }

    /** The fraction is already what it comes to be: so nothing at all is changed. */
    private static void odds(Life life) {
        Due.sentence("ODDS is THE FRACTION, and nothing else");
        for (int h = 0; h < HEIRS; h++) {
            int heir = h;
            FoundLast x = life.make();
            x.odds(heir);
            long above = x.part(0);
            long below = x.part(1);
            changed(life, "odds", y -> y.odds(heir), v -> {
                v.above = above;
                v.below = below;
            });
            int by25 = (int) (above * 25 / below);
            Due.is(life.name + ", odds that can be made beforehand", by25 == 1 ? 1 : 0, 0);
            life.prelude = by25;
            unchanged(life, "odds " + h, y -> Math.max(0, y.odds(heir)));
            life.prelude = -1;
        }
    }

    private static void heir(Life life) {
        Due.sentence("promise 8: an HEIR, none may be undone, and nothing else");
        changed(life, "heir", x -> x.heir(1, 6, 3), v -> {
            v.heirs.add(new int[] {1, 6, 3, 0, 0, -1, 0});
            v.counts[0]++;
            v.counts[4]++;
            v.counts[7] = 0;
        });
        FoundLast x = life.make();
        x.heir(1, 6, 3);
        Shown shown = new Shown(x);
        Shown due = new Shown(life.make());
        Due.is("status", shown.status.equals(due.status) ? 1 : 0, 1);
        Due.is("undo", shown.now.get(1), FoundLast.NO);
        shown.keeps(life.name + ", heir", due);
    }

    private static void houseAnew(Life life) {
        Due.sentence("promise 2: EYES, THE RULE, all else as at first (but for IMAGES, THE TEXT, THE FRACTION, STATUS)");
        FoundLast x = life.make();
        x.house(24, 23);
        Values due = new Values(new FoundLast(), new int[0], new int[0][]);
        due.counts[1] = 24;
        due.counts[2] = 23;
        due.counts[8] = 22;
        due.above = 7;
        due.below = 25;
        Shown shown = new Shown(x);
        Due.is("digest", shown.now.get(0), due.digest());
        Due.is("undo", shown.now.get(1), FoundLast.NO);
        Shown before = new Shown(life.make());
        Due.is("status", shown.status.equals(before.status) ? 1 : 0, 1);
        shown.keeps(life.name + ", house", before);
    }

    private static void read(Life life) {
        Due.sentence("A HOUSE that is read takes the place of all but IMAGES, THE TEXT, THE FRACTION, STATUS");
        FoundLast x = life.make();
        Due.is("read", x.read(), 2);
        Values due = new Values(new FoundLast(), new int[0], new int[0][]);
        due.counts[0] = 1;
        due.counts[1] = 12;
        due.counts[2] = 4;
        due.counts[4] = 1;
        due.counts[8] = 22;
        due.heirs.add(new int[] {2, 3, 1, 0, 0, -1, 0});
        due.above = 7;
        due.below = 25;
        Shown shown = new Shown(x);
        Due.is("digest", shown.now.get(0), due.digest());
        Due.is("undo", shown.now.get(1), FoundLast.NO);
        Shown before = new Shown(life.make());
        Due.is("status", shown.status.equals(before.status) ? 1 : 0, 1);
        shown.keeps(life.name + ", read", before);
        unchanged(life, "read with a FAULT", y -> {
            y.type('?');
            y.read();
            return retyped(y);
        });
    }

    private static void imageAndFrom(Life life) {
        Due.sentence("promises 31, 32: an IMAGE is kept; it goes on from one; and nothing else");
        for (int i = 0; i < 2; i++) {
            int which = i;
            FoundLast x = life.make();
            x.image(which);
            Shown due = new Shown(life.make());
            due.images.set(which, due.now);
            new Shown(x).is(life.name + ", image " + i, due);
            if (which == 1 && !life.bothImages) {
                unchanged(life, "from none", y -> y.from(1));
                continue;
            }
            FoundLast kept = life.make();
            kept.image(which);
            muchElse(kept);
            Due.is("from", kept.from(which), 1);
            Due.is(life.name + ", from " + i + ", much later", kept.count(7), life.make().count(7));
            Shown later = new Shown(life.make());
            Due.is(life.name + ", as it was kept", new Shown(kept).now.equals(later.now) ? 1 : 0, 1);
            FoundLast y = life.make();
            y.from(which);
            Shown then = new Shown(life.make());
            then.now.clear();
            then.now.addAll(then.images.get(which));
            new Shown(y).is(life.name + ", from " + i, then);
        }
    }

    /** Another house, of which as much may be undone as can be; the text and the fraction stay. */
    private static void muchElse(FoundLast x) {
        x.house(25, 0);
        for (int h = 0; h < 6; h++) {
            x.heir(h, 7 - h, 9 - h);
        }
        x.door(7, 6, 9);
        for (int i = 0; i < 6; i++) {
            x.move(0, i % 2 == 0 ? 6 : 7);
            x.night();
            x.seen(i, i, 1);
        }
    }
}
