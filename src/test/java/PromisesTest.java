/** For each promise: ordinary inputs, the edges that the document names, and wrong inputs. */
public final class PromisesTest {
    private static final int MIN = Integer.MIN_VALUE;
    private static final int MAX = Integer.MAX_VALUE;
    private static final int[] BAD_PARTIES = {-1, 3, 64, MIN, MAX};
    private static final int[] BAD_ITEMS = {-1, 64, 65, MIN, MAX};

    private static int wrong = 0;

    private static void due(String call, int got, int want) {
        if (got != want) {
            wrong++;
            System.out.println(call + " answered " + got + ", due is " + want);
        }
    }

    public static void main(String[] args) {
        promise1NewObject();
        promise2Secret();
        promise3Give();
        promise3GiveWhenFull();
        promise3GiveRefused();
        promise4GiveMany();
        promise4GiveManyKeepsWeights();
        promise4GiveManyRoundTheEnd();
        promise4GiveManyToTheBrim();
        promise4GiveManyRefused();
        promise5Take();
        promise5TakeRefused();
        promise6Clear();
        promise7Held();
        promise8Holds();
        promise9Common();
        promise10CommonItem();
        promise11CommonWeight();
        promise12CommonToAll();
        promise13ItemOfAll();
        promise14Any();
        promise15HeldByJust();
        promise16Alone();
        promise17Within();
        promise18Traffic();
        promise18TrafficStays();
        promise18TrafficIsNotRecounted();
        System.out.println(wrong == 0 ? "all answers are as due" : wrong + " answers are not as due");
        if (wrong != 0) {
            System.exit(1);
        }
    }

    private static PrivateIntersect fresh() {
        return new PrivateIntersect(1, 2, 3);
    }

    /** Party 0: 0, 10, 20, 63; party 1: 10, 20, 30, 63; party 2: 20, 40, 63. Weights 100 * party + item. */
    private static PrivateIntersect mixed() {
        PrivateIntersect x = fresh();
        int[][] items = {{63, 20, 0, 10}, {30, 63, 10, 20}, {40, 20, 63}};
        for (int party = 0; party < 3; party++) {
            for (int item : items[party]) {
                x.give(party, item, 100 * party + item);
            }
        }
        return x;
    }

    private static void promise1NewObject() {
        int[] secrets = {0, 1, -1, MIN, MAX};
        for (int a : secrets) {
            for (int b : secrets) {
                PrivateIntersect x = new PrivateIntersect(a, b, 7);
                due("1: traffic()", x.traffic(), 0);
                due("1: any()", x.any(), 0);
                for (int party = 0; party < 3; party++) {
                    due("1: held(" + party + ")", x.held(party), 0);
                    due("1: clear(" + party + ")", x.clear(party), 0);
                }
                for (int item = 0; item < 64; item++) {
                    due("1: holds(2, " + item + ")", x.holds(2, item), 0);
                }
                x.give(0, 5, 9);
                x.give(1, 5, 8);
                x.give(1, 6, 7);
                due("1: common(0, 1)", x.common(0, 1), 1);
                due("1: commonWeight(0, 1)", x.commonWeight(0, 1), 9);
                due("1: traffic()", x.traffic(), 2);
            }
        }
    }

    private static void promise2Secret() {
        PrivateIntersect x = mixed();
        x.common(0, 1);
        for (int party : BAD_PARTIES) {
            due("2: secret(" + party + ", 4)", x.secret(party, 4), -1);
        }
        for (int value : new int[] {0, 5, -5, MIN, MAX}) {
            for (int party = 0; party < 3; party++) {
                due("2: secret(" + party + ", " + value + ")", x.secret(party, value), 0);
            }
            due("2: traffic()", x.traffic(), 5);
            due("2: held(0)", x.held(0), 4);
            due("2: common(0, 1)", x.common(0, 1), 3);
            due("2: commonItem(0, 1, 2)", x.commonItem(0, 1, 2), 63);
            due("2: commonWeight(1, 0)", x.commonWeight(1, 0), 393);
            due("2: commonToAll()", x.commonToAll(), 2);
        }
    }

    private static void promise3Give() {
        PrivateIntersect x = fresh();
        due("3: give(0, 0, 5)", x.give(0, 0, 5), 1);
        due("3: give(0, 63, 6)", x.give(0, 63, 6), 2);
        due("3: give(0, 31, 7)", x.give(0, 31, 7), 3);
        due("3: give(0, 32, 0)", x.give(0, 32, 0), 4);
        due("3: give(2, 63, 9)", x.give(2, 63, 9), 1);
        due("3: commonWeight(0, 0)", x.commonWeight(0, 0), 18);
        due("3: give again", x.give(0, 31, -7), 4);
        due("3: commonWeight(0, 0)", x.commonWeight(0, 0), 4);
        due("3: commonWeight(2, 2)", x.commonWeight(2, 2), 9);
        due("3: held(1)", x.held(1), 0);
    }

    private static void promise3GiveWhenFull() {
        PrivateIntersect x = fresh();
        for (int n = 0; n < 16; n++) {
            due("3: give " + n, x.give(1, 4 * n, n), n + 1);
        }
        due("3: a 17th item", x.give(1, 1, 1000), -3);
        due("3: holds(1, 1)", x.holds(1, 1), 0);
        due("3: commonWeight(1, 1)", x.commonWeight(1, 1), 120);
        due("3: one of the 16", x.give(1, 60, 1000), 16);
        due("3: commonWeight(1, 1)", x.commonWeight(1, 1), 1105);
        due("3: another party", x.give(0, 1, 1), 1);
        due("3: a bad item when full", x.give(1, 64, 1), -2);
        x.take(1, 0);
        due("3: a 16th item again", x.give(1, 1, 1), 16);
    }

    private static void promise3GiveRefused() {
        PrivateIntersect x = mixed();
        for (int party : BAD_PARTIES) {
            due("3: give(" + party + ", 1, 1)", x.give(party, 1, 1), -1);
            due("3: give(" + party + ", 64, 1)", x.give(party, 64, 1), -1);
        }
        for (int item : BAD_ITEMS) {
            due("3: give(0, " + item + ", 1)", x.give(0, item, 1), -2);
        }
        sameAsMixed("3", x);
    }

    private static void sameAsMixed(String promise, PrivateIntersect x) {
        PrivateIntersect y = mixed();
        for (int party = 0; party < 3; party++) {
            for (int item = 0; item < 64; item++) {
                due(promise + ": holds(" + party + ", " + item + ") after a refused call",
                    x.holds(party, item), y.holds(party, item));
            }
            due(promise + ": weights of " + party + " after a refused call",
                x.commonWeight(party, party), y.commonWeight(party, party));
        }
        due(promise + ": traffic() after a refused call", x.traffic(), 0);
    }

    private static void promise4GiveMany() {
        PrivateIntersect x = fresh();
        due("4: one item", x.giveMany(0, 64, 1), 1);
        due("4: holds(0, 0)", x.holds(0, 0), 1);
        due("4: three items", x.giveMany(0, 3 * 64 + 5, 10), 4);
        for (int item = 0; item < 64; item++) {
            boolean is = item == 0 || item == 5 || item == 15 || item == 25;
            due("4: holds(0, " + item + ")", x.holds(0, item), is ? 1 : 0);
        }
        due("4: commonWeight(0, 0)", x.commonWeight(0, 0), 4);
        due("4: held(1)", x.held(1), 0);
        due("4: least spec", x.giveMany(2, 64, 63), 1);
        due("4: last first of count 1", x.giveMany(2, 127, 63), 2);
        due("4: holds(2, 63)", x.holds(2, 63), 1);
        due("4: commonWeight(2, 2)", x.commonWeight(2, 2), 2);
    }

    private static void promise4GiveManyKeepsWeights() {
        PrivateIntersect x = fresh();
        x.give(1, 8, 50);
        x.give(1, 9, 70);
        x.take(1, 9);
        due("4: 8, 9, 10", x.giveMany(1, 3 * 64 + 8, 1), 3);
        due("4: 8 keeps 50, 9 was lost and gets 1", x.commonWeight(1, 1), 52);
        x.clear(1);
        due("4: 8 again", x.giveMany(1, 64 + 8, 1), 1);
        due("4: 8 was lost and gets 1", x.commonWeight(1, 1), 1);
    }

    private static void promise4GiveManyRoundTheEnd() {
        PrivateIntersect x = fresh();
        due("4: greatest spec", x.giveMany(0, 1087, 63), 16);
        for (int item = 0; item < 64; item++) {
            due("4: holds(0, " + item + ")", x.holds(0, item), item >= 48 ? 1 : 0);
        }
        due("4: two items met eight times", x.giveMany(1, 1024 + 40, 32), 2);
        due("4: holds(1, 8)", x.holds(1, 8), 1);
        due("4: holds(1, 40)", x.holds(1, 40), 1);
        due("4: commonWeight(1, 1)", x.commonWeight(1, 1), 2);
        due("4: four items met four times", x.giveMany(2, 1024 + 63, 16), 4);
        due("4: commonItem(2, 2, 0)", x.commonItem(2, 2, 0), 15);
    }

    private static void promise4GiveManyToTheBrim() {
        PrivateIntersect x = fresh();
        x.give(0, 0, 9);
        x.give(0, 1, 9);
        due("4: 18 items", x.giveMany(0, 1024 + 2, 1), -4);
        due("4: 17 items", x.giveMany(0, 1024 + 1, 1), -4);
        due("4: held(0)", x.held(0), 2);
        due("4: holds(0, 2)", x.holds(0, 2), 0);
        due("4: commonWeight(0, 0)", x.commonWeight(0, 0), 18);
        due("4: 16 items", x.giveMany(0, 1024, 1), 16);
        due("4: commonWeight(0, 0)", x.commonWeight(0, 0), 32);
        due("4: the same 16", x.giveMany(0, 1024, 1), 16);
        due("4: one of the 16", x.giveMany(0, 64 + 15, 5), 16);
        due("4: one too many", x.giveMany(0, 64 + 16, 5), -4);
        due("4: one held and one too many", x.giveMany(0, 128 + 15, 1), -4);
        due("4: commonWeight(0, 0)", x.commonWeight(0, 0), 32);
    }

    private static void promise4GiveManyRefused() {
        PrivateIntersect x = mixed();
        for (int party : BAD_PARTIES) {
            due("4: bad party " + party, x.giveMany(party, 64, 1), -1);
            due("4: bad party and spec", x.giveMany(party, 0, 0), -1);
        }
        for (int spec : new int[] {63, 0, -1, -64, 1088, MIN, MAX}) {
            due("4: bad spec " + spec, x.giveMany(1, spec, 1), -2);
            due("4: bad spec and step", x.giveMany(1, spec, 0), -2);
        }
        for (int step : new int[] {0, -1, 64, 65, MIN, MAX}) {
            due("4: bad step " + step, x.giveMany(1, 64, step), -3);
            due("4: bad step and too many", x.giveMany(1, 1024, step), -3);
        }
        due("4: too many", x.giveMany(1, 1024, 1), -4);
        sameAsMixed("4", x);
    }

    private static void promise5Take() {
        PrivateIntersect x = mixed();
        due("5: take(0, 63)", x.take(0, 63), 3);
        due("5: holds(0, 63)", x.holds(0, 63), 0);
        due("5: holds(1, 63)", x.holds(1, 63), 1);
        due("5: commonWeight(0, 0)", x.commonWeight(0, 0), 30);
        due("5: take(0, 63) again", x.take(0, 63), -3);
        due("5: take(0, 0)", x.take(0, 0), 2);
        due("5: take(0, 20)", x.take(0, 20), 1);
        due("5: take(0, 10)", x.take(0, 10), 0);
        due("5: take(0, 10) again", x.take(0, 10), -3);
        due("5: any()", x.any(), 5);
    }

    private static void promise5TakeRefused() {
        PrivateIntersect x = mixed();
        for (int party : BAD_PARTIES) {
            due("5: take(" + party + ", 10)", x.take(party, 10), -1);
            due("5: take(" + party + ", 64)", x.take(party, 64), -1);
        }
        for (int item : BAD_ITEMS) {
            due("5: take(0, " + item + ")", x.take(0, item), -2);
        }
        due("5: held by others only", x.take(0, 30), -3);
        due("5: held by none", x.take(0, 1), -3);
        sameAsMixed("5", x);
    }

    private static void promise6Clear() {
        PrivateIntersect x = mixed();
        for (int party : BAD_PARTIES) {
            due("6: clear(" + party + ")", x.clear(party), -1);
        }
        sameAsMixed("6", x);
        due("6: clear(1)", x.clear(1), 4);
        due("6: held(1)", x.held(1), 0);
        due("6: held(0)", x.held(0), 4);
        due("6: held(2)", x.held(2), 3);
        due("6: holds(1, 63)", x.holds(1, 63), 0);
        due("6: commonWeight(1, 1)", x.commonWeight(1, 1), 0);
        due("6: clear(1) again", x.clear(1), 0);
        due("6: room for 16", x.giveMany(1, 1024, 3), 16);
        due("6: clear(1) when full", x.clear(1), 16);
    }

    private static void promise7Held() {
        PrivateIntersect x = mixed();
        due("7: held(0)", x.held(0), 4);
        due("7: held(1)", x.held(1), 4);
        due("7: held(2)", x.held(2), 3);
        x.giveMany(2, 13 * 64 + 1, 1);
        due("7: held(2) when full", x.held(2), 16);
        for (int party : BAD_PARTIES) {
            due("7: held(" + party + ")", x.held(party), -1);
        }
    }

    private static void promise8Holds() {
        PrivateIntersect x = mixed();
        for (int item = 0; item < 64; item++) {
            boolean is = item == 0 || item == 10 || item == 20 || item == 63;
            due("8: holds(0, " + item + ")", x.holds(0, item), is ? 1 : 0);
        }
        x.give(1, 7, 0);
        due("8: holds(1, 7) with the weight 0", x.holds(1, 7), 1);
        due("8: holds(0, 7)", x.holds(0, 7), 0);
        for (int party : BAD_PARTIES) {
            due("8: holds(" + party + ", 0)", x.holds(party, 0), -1);
            due("8: holds(" + party + ", 64)", x.holds(party, 64), -1);
        }
        for (int item : BAD_ITEMS) {
            due("8: holds(0, " + item + ")", x.holds(0, item), -2);
        }
    }

    private static void promise9Common() {
        PrivateIntersect x = mixed();
        int[][] want = {{4, 3, 2}, {3, 4, 2}, {2, 2, 3}};
        for (int p = 0; p < 3; p++) {
            for (int q = 0; q < 3; q++) {
                due("9: common(" + p + ", " + q + ")", x.common(p, q), want[p][q]);
            }
        }
        for (int party : BAD_PARTIES) {
            due("9: common(" + party + ", 0)", x.common(party, 0), -1);
            due("9: common(0, " + party + ")", x.common(0, party), -1);
            due("9: common of one bad party", x.common(party, party), -1);
        }
        x.clear(2);
        due("9: common(0, 2) with none", x.common(0, 2), 0);
    }

    private static void promise10CommonItem() {
        PrivateIntersect x = mixed();
        int[] both = {10, 20, 63};
        int[] own = {0, 10, 20, 63};
        for (int i = 0; i < both.length; i++) {
            due("10: commonItem(0, 1, " + i + ")", x.commonItem(0, 1, i), both[i]);
            due("10: commonItem(1, 0, " + i + ")", x.commonItem(1, 0, i), both[i]);
        }
        for (int i = 0; i < own.length; i++) {
            due("10: commonItem(0, 0, " + i + ")", x.commonItem(0, 0, i), own[i]);
        }
        for (int i : new int[] {3, 4, 10, 64, -1, MIN, MAX}) {
            due("10: commonItem(0, 1, " + i + ")", x.commonItem(0, 1, i), -2);
        }
        due("10: commonItem(0, 0, 4)", x.commonItem(0, 0, 4), -2);
        for (int party : BAD_PARTIES) {
            due("10: commonItem(" + party + ", 0, 0)", x.commonItem(party, 0, 0), -1);
            due("10: commonItem(0, " + party + ", 0)", x.commonItem(0, party, 0), -1);
            due("10: bad party and i", x.commonItem(0, party, -1), -1);
        }
    }

    private static void promise11CommonWeight() {
        PrivateIntersect x = mixed();
        int[][] want = {{93, 93, 83}, {393, 523, 283}, {483, 483, 723}};
        for (int p = 0; p < 3; p++) {
            for (int q = 0; q < 3; q++) {
                due("11: commonWeight(" + p + ", " + q + ")", x.commonWeight(p, q), want[p][q]);
            }
        }
        for (int party : BAD_PARTIES) {
            due("11: commonWeight(" + party + ", 0)", x.commonWeight(party, 0), 0);
            due("11: commonWeight(0, " + party + ")", x.commonWeight(0, party), 0);
        }
        x.give(0, 10, MAX);
        x.give(0, 20, 1);
        x.give(0, 63, 0);
        due("11: over the top", x.commonWeight(0, 1), MIN);
        x.give(0, 10, MIN);
        x.give(0, 20, -1);
        due("11: under the bottom", x.commonWeight(0, 1), MAX);
    }

    private static void promise12CommonToAll() {
        PrivateIntersect x = mixed();
        due("12: commonToAll()", x.commonToAll(), 2);
        x.take(1, 20);
        due("12: commonToAll() without 20", x.commonToAll(), 1);
        x.clear(0);
        due("12: commonToAll() without party 0", x.commonToAll(), 0);
        for (int party = 0; party < 3; party++) {
            x.clear(party);
            x.giveMany(party, 1024 + 50, 1);
        }
        due("12: commonToAll() of 16", x.commonToAll(), 16);
    }

    private static void promise13ItemOfAll() {
        PrivateIntersect x = mixed();
        due("13: itemOfAll(0)", x.itemOfAll(0), 20);
        due("13: itemOfAll(1)", x.itemOfAll(1), 63);
        for (int i : new int[] {2, 3, 20, 64, -1, MIN, MAX}) {
            due("13: itemOfAll(" + i + ")", x.itemOfAll(i), -1);
        }
        for (int party = 0; party < 3; party++) {
            x.give(party, 0, 5);
        }
        due("13: itemOfAll(0) is item 0", x.itemOfAll(0), 0);
        for (int party = 0; party < 3; party++) {
            x.take(party, 0);
            due("13: itemOfAll(0) when party " + party + " lacks item 0", x.itemOfAll(0), 20);
            x.give(party, 0, 5);
        }
        x.clear(2);
        due("13: itemOfAll(0) with none", x.itemOfAll(0), -1);
    }

    private static void promise14Any() {
        PrivateIntersect x = mixed();
        due("14: any()", x.any(), 6);
        x.take(2, 40);
        due("14: any() without 40", x.any(), 5);
        for (int party = 0; party < 3; party++) {
            x.clear(party);
        }
        due("14: any() of none", x.any(), 0);
        for (int party = 0; party < 3; party++) {
            x.giveMany(party, 1024 + 20 * party, 1);
        }
        due("14: any() of 48", x.any(), 48);
    }

    private static void promise15HeldByJust() {
        PrivateIntersect x = mixed();
        due("15: heldByJust(1)", x.heldByJust(1), 3);
        due("15: heldByJust(2)", x.heldByJust(2), 1);
        due("15: heldByJust(3)", x.heldByJust(3), 2);
        for (int k : new int[] {0, 4, -1, MIN, MAX}) {
            due("15: heldByJust(" + k + ")", x.heldByJust(k), -1);
        }
        x.clear(2);
        due("15: heldByJust(1) of two", x.heldByJust(1), 2);
        due("15: heldByJust(2) of two", x.heldByJust(2), 3);
        due("15: heldByJust(3) of two", x.heldByJust(3), 0);
    }

    private static void promise16Alone() {
        PrivateIntersect x = mixed();
        due("16: alone(0)", x.alone(0), 1);
        due("16: alone(1)", x.alone(1), 1);
        due("16: alone(2)", x.alone(2), 1);
        x.clear(1);
        due("16: alone(0) without 1", x.alone(0), 2);
        due("16: alone(1) with none", x.alone(1), 0);
        due("16: alone(2) without 1", x.alone(2), 1);
        x.clear(0);
        due("16: alone(2) without 0 and 1", x.alone(2), 3);
        for (int party : BAD_PARTIES) {
            due("16: alone(" + party + ")", x.alone(party), -1);
        }
    }

    private static void promise17Within() {
        PrivateIntersect x = mixed();
        due("17: within(2, 0)", x.within(2, 0), 0);
        x.take(2, 40);
        due("17: within(2, 0) without 40", x.within(2, 0), 1);
        due("17: within(0, 2)", x.within(0, 2), 0);
        due("17: within(1, 1)", x.within(1, 1), 1);
        x.clear(0);
        due("17: an empty set in another", x.within(0, 1), 1);
        due("17: a set in an empty one", x.within(1, 0), 0);
        due("17: an empty set in itself", x.within(0, 0), 1);
        for (int party : BAD_PARTIES) {
            due("17: within(" + party + ", 0)", x.within(party, 0), -1);
            due("17: within(0, " + party + ")", x.within(0, party), -1);
            due("17: within of one bad party", x.within(party, party), -1);
        }
    }

    private static void promise18Traffic() {
        PrivateIntersect x = mixed();
        due("18: traffic() at first", x.traffic(), 0);
        x.common(0, 2);
        due("18: traffic() after common(0, 2)", x.traffic(), 5);
        x.give(2, 41, 0);
        x.commonItem(2, 0, 0);
        due("18: traffic() after commonItem(2, 0, 0)", x.traffic(), 6);
        x.give(2, 42, 0);
        x.commonItem(2, 0, 2);
        due("18: traffic() after a commonItem that answers -2", x.traffic(), 7);
        x.give(2, 43, 0);
        x.commonItem(0, 2, -1);
        due("18: traffic() after commonItem(0, 2, -1)", x.traffic(), 8);
        x.give(2, 44, 0);
        x.commonWeight(2, 0);
        due("18: traffic() after commonWeight(2, 0)", x.traffic(), 9);
        x.give(2, 45, 0);
        x.within(0, 2);
        due("18: traffic() after within(0, 2)", x.traffic(), 10);
        x.within(1, 0);
        due("18: traffic() after within(1, 0)", x.traffic(), 5);
        due("18: traffic() again", x.traffic(), 5);
    }

    private static void promise18TrafficStays() {
        PrivateIntersect x = mixed();
        x.common(1, 2);
        for (int party = 0; party < 3; party++) {
            x.common(party, party);
            x.commonItem(party, party, 0);
            x.commonWeight(party, party);
            x.within(party, party);
            x.alone(party);
            x.held(party);
            x.holds(party, 0);
            x.heldByJust(party + 1);
            due("18: traffic() after questions that compare no two parties", x.traffic(), 5);
        }
        for (int party : BAD_PARTIES) {
            x.common(0, party);
            x.commonItem(party, 0, 0);
            x.commonWeight(0, party);
            x.within(party, 1);
            due("18: traffic() after comparing with a bad party", x.traffic(), 5);
        }
        x.commonToAll();
        x.itemOfAll(0);
        x.any();
        x.secret(1, 99);
        due("18: traffic() after questions about all", x.traffic(), 5);
    }

    private static void promise18TrafficIsNotRecounted() {
        PrivateIntersect x = mixed();
        x.common(0, 1);
        x.give(0, 5, 1);
        x.giveMany(1, 64 * 3 + 1, 1);
        x.take(0, 63);
        x.clear(1);
        due("18: traffic() after the sets have changed", x.traffic(), 5);
        x.clear(0);
        x.common(0, 1);
        due("18: traffic() between empty sets", x.traffic(), 0);
        x.giveMany(0, 1024, 1);
        x.giveMany(1, 1024 + 32, 1);
        x.common(0, 1);
        due("18: traffic() between full sets", x.traffic(), 32);
    }
}
