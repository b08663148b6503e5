/** Promises 1 to 8: a new object, and the calls that change a set. */
public final class ChangingCallsTest {
    private static final Checks checks = new Checks("ChangingCallsTest");

    public static void main(String[] args) {
        newObject();
        add();
        remove();
        rangeOnOrdinaryInputs();
        rangeAtTheEdges();
        rangeRefused();
        combineOnOrdinaryInputs();
        combineIntoItsOwnSets();
        combineRefused();
        shiftOnOrdinaryInputs();
        shiftAtTheEdges();
        shiftRefused();
        clear();
        tidy();
        checks.end();
    }

    private static ContainerSets with(int s, int... numbers) {
        ContainerSets sets = new ContainerSets();
        for (int x : numbers) {
            sets.add(s, x);
        }
        return sets;
    }

    private static void newObject() {
        ContainerSets sets = new ContainerSets();
        for (int s = 0; s < 4; s++) {
            checks.due("new: size", sets.size(s), 0);
            checks.due("new: ranges", sets.ranges(s), 0);
            checks.due("new: next", sets.next(s, 0), ContainerSets.NONE);
            checks.due("new: countIn", sets.countIn(s, Checks.ends(0, 1024)), 0);
        }
        sets.add(0, 5);
        checks.due("a second object shares nothing", new ContainerSets().size(0), 0);
    }

    private static void add() {
        ContainerSets sets = new ContainerSets();
        checks.due("add of a new number", sets.add(1, 500), 1);
        checks.due("add of a number that is in", sets.add(1, 500), 0);
        checks.due("add of 0", sets.add(1, 0), 1);
        checks.due("add of 1023", sets.add(1, 1023), 1);
        checks.holds("after add", sets, 1, 0, 500, 1023);
        checks.holds("after add to set 1", sets, 0);
        checks.holds("after add to set 1", sets, 2);
        checks.due("add to set 0", sets.add(0, 500), 1);
        checks.due("add to set 3", sets.add(3, 500), 1);
        sets.remove(1, 500);
        checks.due("add after remove", sets.add(1, 500), 1);
        for (int s : Checks.NO_SETS) {
            checks.due("add to set " + s, sets.add(s, 7), ContainerSets.BAD_SET);
            checks.due("add of a bad number to set " + s, sets.add(s, -1), ContainerSets.BAD_SET);
        }
        for (int x : Checks.NO_NUMBERS) {
            checks.due("add of " + x, sets.add(1, x), ContainerSets.BAD_NUMBER);
        }
        checks.holds("after refused adds", sets, 0, 500);
        checks.holds("after refused adds", sets, 1, 0, 500, 1023);
        checks.holds("after refused adds", sets, 2);
        checks.holds("after refused adds", sets, 3, 500);
    }

    private static void remove() {
        ContainerSets sets = with(2, 0, 64, 1023);
        sets.add(1, 64);
        checks.due("remove of a number that is in", sets.remove(2, 64), 1);
        checks.due("remove of it again", sets.remove(2, 64), 0);
        checks.due("remove of a number never in", sets.remove(2, 63), 0);
        checks.holds("after remove", sets, 2, 0, 1023);
        checks.holds("after remove from set 2", sets, 1, 64);
        for (int s : Checks.NO_SETS) {
            checks.due("remove from set " + s, sets.remove(s, 0), ContainerSets.BAD_SET);
            checks.due("remove of a bad number from set " + s,
                    sets.remove(s, 1024), ContainerSets.BAD_SET);
        }
        for (int x : Checks.NO_NUMBERS) {
            checks.due("remove of " + x, sets.remove(2, x), ContainerSets.BAD_NUMBER);
        }
        checks.holds("after refused removes", sets, 2, 0, 1023);
        checks.holds("after refused removes", sets, 1, 64);
        checks.due("remove of 0", sets.remove(2, 0), 1);
        checks.due("remove of 1023", sets.remove(2, 1023), 1);
        checks.holds("after all removes", sets, 2);
    }

    private static void rangeOnOrdinaryInputs() {
        ContainerSets sets = with(1, 9, 12, 20);
        checks.due("range in", sets.range(1, Checks.ends(10, 14), 0), 6);
        checks.holds("after range in", sets, 1, 9, 10, 11, 12, 13, 20);
        checks.due("range out", sets.range(1, Checks.ends(11, 13), 1), 4);
        checks.holds("after range out", sets, 1, 9, 10, 13, 20);
        checks.due("range turned", sets.range(1, Checks.ends(9, 13), 2), 4);
        checks.holds("after range turned", sets, 1, 11, 12, 13, 20);
        checks.due("range out of what is not in", sets.range(1, Checks.ends(100, 200), 1), 4);
        checks.due("range in once more", sets.range(1, Checks.ends(11, 14), 0), 4);
        checks.holds("after ranges on set 1", sets, 0);
        checks.holds("after ranges on set 1", sets, 2);
    }

    private static void rangeAtTheEdges() {
        ContainerSets sets = with(3, 7);
        for (int how = 0; how < 3; how++) {
            checks.due("empty range, how " + how, sets.range(3, Checks.ends(7, 7), how), 1);
            checks.due("range with a above b, how " + how,
                    sets.range(3, Checks.ends(9, 6), how), 1);
            checks.due("range from 1024 to 0, how " + how,
                    sets.range(3, Checks.ends(1024, 0), how), 1);
            checks.due("range at 1024, how " + how, sets.range(3, Checks.ends(1024, 1024), how), 1);
            checks.due("range at 0, how " + how, sets.range(3, Checks.ends(0, 0), how), 1);
        }
        checks.holds("after empty ranges", sets, 3, 7);
        checks.due("all turned", sets.range(3, Checks.ends(0, 1024), 2), 1023);
        checks.due("7 turned out", sets.has(3, 7), false);
        checks.due("0 turned in", sets.has(3, 0), true);
        checks.due("1023 turned in", sets.has(3, 1023), true);
        checks.due("all in", sets.range(3, Checks.ends(0, 1024), 0), 1024);
        checks.due("all out", sets.range(3, Checks.ends(0, 1024), 1), 0);
        checks.due("0 alone", sets.range(3, Checks.ends(0, 1), 0), 1);
        checks.due("1023 alone", sets.range(3, Checks.ends(1023, 1024), 0), 2);
        checks.holds("after the outer numbers", sets, 3, 0, 1023);
        int bit22 = 1 << 22;
        checks.due("bit 22 set", sets.range(3, Checks.ends(5, 7) + bit22, 0), 4);
        checks.due("bit 31 set", sets.range(3, Checks.ends(5, 6) + Checks.LEAST, 1), 3);
        checks.due("bits 22 to 31 set", sets.range(3, Checks.ends(1, 3) - bit22, 2), 5);
        checks.holds("after ranges with other bits", sets, 3, 0, 1, 2, 6, 1023);
        checks.holds("after ranges on set 3", sets, 0);
        checks.holds("after ranges on set 3", sets, 2);
    }

    private static void rangeRefused() {
        ContainerSets sets = with(0, 3, 1023);
        for (int s : Checks.NO_SETS) {
            checks.due("range on set " + s,
                    sets.range(s, Checks.ends(0, 9), 0), ContainerSets.BAD_SET);
            checks.due("bad range on set " + s,
                    sets.range(s, Checks.ends(0, 1025), 0), ContainerSets.BAD_SET);
            checks.due("bad how on set " + s,
                    sets.range(s, Checks.ends(0, 9), 3), ContainerSets.BAD_SET);
        }
        for (int how = 0; how < 3; how++) {
            checks.due("range to 1025",
                    sets.range(0, Checks.ends(0, 1025), how), ContainerSets.BAD_NUMBER);
            checks.due("range to 2047",
                    sets.range(0, Checks.ends(0, 2047), how), ContainerSets.BAD_NUMBER);
            checks.due("range from 1025",
                    sets.range(0, Checks.ends(1025, 5), how), ContainerSets.BAD_NUMBER);
            checks.due("range from 2047",
                    sets.range(0, Checks.ends(2047, 1024), how), ContainerSets.BAD_NUMBER);
            checks.due("range of ends -1", sets.range(0, -1, how), ContainerSets.BAD_NUMBER);
        }
        for (int how : new int[] {-1, 3, Checks.LEAST, Checks.MOST}) {
            checks.due("range with how " + how,
                    sets.range(0, Checks.ends(0, 9), how), ContainerSets.BAD_NUMBER);
            checks.due("empty range with how " + how,
                    sets.range(0, Checks.ends(9, 0), how), ContainerSets.BAD_NUMBER);
        }
        checks.holds("after refused ranges", sets, 0, 3, 1023);
        checks.holds("after refused ranges", sets, 1);
        checks.holds("after refused ranges", sets, 3);
    }

    /** Set 0 holds 0, 1, 500 and set 1 holds 1, 500, 1023; set 2 holds 77. */
    private static ContainerSets twoThatMeet() {
        ContainerSets sets = with(0, 0, 1, 500);
        sets.add(1, 1);
        sets.add(1, 500);
        sets.add(1, 1023);
        sets.add(2, 77);
        return sets;
    }

    private static final int[][] JOINED = {{0, 1, 500, 1023}, {1, 500}, {0}, {0, 1023}};

    private static void combineOnOrdinaryInputs() {
        for (int how = 0; how < 4; how++) {
            ContainerSets sets = twoThatMeet();
            checks.due("combine, how " + how, sets.combine(2, 0, 1, how), JOINED[how].length);
            checks.holds("after combine, how " + how, sets, 2, JOINED[how]);
            checks.holds("after combine, how " + how, sets, 0, 0, 1, 500);
            checks.holds("after combine, how " + how, sets, 1, 1, 500, 1023);
            checks.holds("after combine, how " + how, sets, 3);
        }
        ContainerSets sets = twoThatMeet();
        checks.due("combine the other way round", sets.combine(3, 1, 0, 2), 1);
        checks.holds("after combine the other way round", sets, 3, 1023);
        sets.range(0, Checks.ends(0, 1024), 0);
        checks.due("all but a set", sets.combine(3, 0, 1, 2), 1021);
        checks.due("all or a set", sets.combine(3, 0, 1, 0), 1024);
    }

    private static void combineIntoItsOwnSets() {
        int[] same = {3, 3, 0, 0};
        for (int how = 0; how < 4; how++) {
            ContainerSets first = twoThatMeet();
            checks.due("combine into s, how " + how, first.combine(0, 0, 1, how), JOINED[how].length);
            checks.holds("after combine into s, how " + how, first, 0, JOINED[how]);
            checks.holds("after combine into s, how " + how, first, 1, 1, 500, 1023);
            ContainerSets second = twoThatMeet();
            checks.due("combine into t, how " + how, second.combine(1, 0, 1, how), JOINED[how].length);
            checks.holds("after combine into t, how " + how, second, 1, JOINED[how]);
            checks.holds("after combine into t, how " + how, second, 0, 0, 1, 500);
            ContainerSets alone = twoThatMeet();
            checks.due("combine of one set, how " + how, alone.combine(0, 0, 0, how), same[how]);
            ContainerSets copied = twoThatMeet();
            checks.due("combine of s with s, how " + how, copied.combine(2, 0, 0, how), same[how]);
            checks.holds("after combine of s with s, how " + how, copied, 0, 0, 1, 500);
        }
    }

    private static void combineRefused() {
        ContainerSets sets = twoThatMeet();
        for (int s : Checks.NO_SETS) {
            for (int how : new int[] {0, 4, -1}) {
                checks.due("combine to set " + s,
                        sets.combine(s, 0, 1, how), ContainerSets.BAD_SET);
                checks.due("combine of s " + s, sets.combine(2, s, 1, how), ContainerSets.BAD_SET);
                checks.due("combine of t " + s, sets.combine(2, 0, s, how), ContainerSets.BAD_SET);
            }
        }
        for (int how : new int[] {-1, 4, Checks.LEAST, Checks.MOST}) {
            checks.due("combine, how " + how, sets.combine(2, 0, 1, how), ContainerSets.BAD_NUMBER);
        }
        checks.holds("after refused combines", sets, 0, 0, 1, 500);
        checks.holds("after refused combines", sets, 1, 1, 500, 1023);
        checks.holds("after refused combines", sets, 2, 77);
        checks.holds("after refused combines", sets, 3);
    }

    private static void shiftOnOrdinaryInputs() {
        ContainerSets sets = with(1, 0, 1, 2, 10, 63, 64, 1000);
        sets.add(0, 1020);
        sets.add(2, 3);
        checks.due("shift by 1", sets.shift(1, 1), 7);
        checks.holds("after shift by 1", sets, 1, 1, 2, 3, 11, 64, 65, 1001);
        checks.due("shift by -2", sets.shift(1, -2), 6);
        checks.holds("after shift by -2", sets, 1, 0, 1, 9, 62, 63, 999);
        checks.due("shift by 64", sets.shift(1, 64), 5);
        checks.holds("after shift by 64", sets, 1, 64, 65, 73, 126, 127);
        checks.due("shift by -64", sets.shift(1, -64), 5);
        checks.holds("after shift by -64", sets, 1, 0, 1, 9, 62, 63);
        checks.due("shift by 0", sets.shift(1, 0), 5);
        checks.holds("after shift by 0", sets, 1, 0, 1, 9, 62, 63);
        checks.holds("after shifts of set 1", sets, 0, 1020);
        checks.holds("after shifts of set 1", sets, 2, 3);
    }

    private static void shiftAtTheEdges() {
        ContainerSets sets = with(0, 0, 1, 1023);
        sets.range(1, Checks.ends(0, 1024), 0);
        sets.range(2, Checks.ends(0, 1024), 0);
        checks.due("shift by 1023", sets.shift(0, 1023), 1);
        checks.holds("after shift by 1023", sets, 0, 1023);
        checks.due("shift by -1023", sets.shift(0, -1023), 1);
        checks.holds("after shift by -1023", sets, 0, 0);
        checks.due("shift of 0 by -1", sets.shift(0, -1), 0);
        checks.due("shift of the empty set", sets.shift(0, 5), 0);
        sets.add(0, 1022);
        checks.due("shift of 1022 by 1", sets.shift(0, 1), 1);
        checks.holds("after shift of 1022 by 1", sets, 0, 1023);
        checks.due("shift of 1023 by 1", sets.shift(0, 1), 0);
        checks.due("the full set by 0", sets.shift(1, 0), 1024);
        checks.due("the full set by 1", sets.shift(1, 1), 1023);
        checks.due("its smallest", sets.next(1, 0), 1);
        checks.due("the same by -1023", sets.shift(1, -1023), 1);
        checks.holds("after both", sets, 1, 0);
        checks.due("set 2 by -100", sets.shift(2, -100), 924);
        checks.due("no more from 924", sets.next(2, 924), ContainerSets.NONE);
        checks.holds("after shifts of other sets", sets, 3);
    }

    private static void shiftRefused() {
        ContainerSets sets = with(2, 4, 1023);
        for (int s : Checks.NO_SETS) {
            checks.due("shift of set " + s, sets.shift(s, 1), ContainerSets.BAD_SET);
            checks.due("bad shift of set " + s, sets.shift(s, 1024), ContainerSets.BAD_SET);
        }
        for (int by : new int[] {-1024, 1024, Checks.LEAST, Checks.MOST}) {
            checks.due("shift by " + by, sets.shift(2, by), ContainerSets.BAD_NUMBER);
        }
        checks.holds("after refused shifts", sets, 2, 4, 1023);
        checks.holds("after refused shifts", sets, 3);
    }

    private static void clear() {
        ContainerSets sets = with(1, 0, 512, 1023);
        sets.add(0, 1023);
        sets.add(2, 0);
        for (int s : Checks.NO_SETS) {
            checks.due("clear of set " + s, sets.clear(s), ContainerSets.BAD_SET);
        }
        checks.holds("after refused clears", sets, 1, 0, 512, 1023);
        checks.due("clear", sets.clear(1), 3);
        checks.holds("after clear", sets, 1);
        checks.holds("after clear of set 1", sets, 0, 1023);
        checks.holds("after clear of set 1", sets, 2, 0);
        checks.due("clear once more", sets.clear(1), 0);
        sets.range(3, Checks.ends(0, 1024), 0);
        checks.due("clear of the full set", sets.clear(3), 1024);
        checks.due("next after clear", sets.next(3, 0), ContainerSets.NONE);
    }

    private static void tidy() {
        ContainerSets sets = with(3, 0, 1, 700);
        sets.range(2, Checks.ends(0, 1024), 0);
        for (int s = 0; s < 4; s++) {
            checks.due("tidy", sets.tidy(s), 0);
            checks.due("tidy once more", sets.tidy(s), 0);
        }
        for (int s : Checks.NO_SETS) {
            checks.due("tidy of set " + s, sets.tidy(s), ContainerSets.BAD_SET);
        }
        checks.holds("after tidy", sets, 3, 0, 1, 700);
        checks.holds("after tidy", sets, 0);
        checks.holds("after tidy", sets, 1);
        checks.due("the full set after tidy", sets.size(2), 1024);
        checks.due("add after tidy", sets.add(3, 2), 1);
        checks.due("remove after tidy", sets.remove(2, 512), 1);
        checks.due("ranges after tidy", sets.ranges(2), 2);
    }
}
