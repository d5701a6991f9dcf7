import java.util.ArrayList;
import java.util.HashSet;
import java.util.List;
import java.util.Set;

/**
 * One test of its own for each sentence of ../shared/DOC.md that names a boundary case. The lists
 * below main quote the sentences in the document's order, each with the test that belongs to it.
 *
 * <p>A run is told as text, a call in each line with the answer that is due: "give 0 63 MAX = 1".
 */
public final class BoundaryTest {
    private static final int MIN = Integer.MIN_VALUE;
    private static final int MAX = Integer.MAX_VALUE;

    // Beside the nearest and the farthest also some that a cast, a shift or a remainder would make good.
    private static final int[] BAD_PARTIES = {-1, 3, -2, -3, 4, 63, 64, 192, 256, 65536, MIN, MIN + 1, MAX};
    private static final int[] BAD_ITEMS = {-1, 64, -64, -63, 65, 127, 128, 256, 65536, MIN, MIN + 1, MAX};
    private static final int[] BAD_SPECS = {63, 1088, 0, 1, -1, -64, -1087, 1089, 65536 + 64, MIN, MIN + 64, MAX};
    private static final int[] BAD_STEPS = {0, 64, -1, -63, -64, 65, 256 + 1, 65536 + 1, MIN, MIN + 1, MAX};
    private static final int[] INTS = {0, 1, -1, 63, 64, MIN, MIN + 1, MAX - 1, MAX};

    private static final String NEW = "";

    /** Sets that overlap, with all kinds of weights; the last exchange sent 5 values. */
    private static final String SOME = """
        give 0 0 1000 = 1
        give 0 10 -7 = 2
        give 0 20 MAX = 3
        give 0 63 5 = 4
        give 1 10 300 = 1
        give 1 20 MIN = 2
        give 1 30 0 = 3
        give 1 63 6 = 4
        give 2 20 1 = 1
        give 2 40 2 = 2
        give 2 63 -1 = 3
        within 0 1 = 0
        """;

    /** Party 0: 0 .. 15, party 1: 8 .. 23, party 2: 48 .. 63; the last exchange sent 24 values. */
    private static final String FULL = """
        giveMany 0 1024 1 = 16
        giveMany 1 1032 1 = 16
        giveMany 2 1072 1 = 16
        give 0 0 -9 = 16
        give 1 8 MAX = 16
        give 2 63 MIN = 16
        common 1 0 = 8
        """;

    /** The same 16 items for all, 0, 4, .. 60. */
    private static final String ALIKE = """
        giveMany 0 1024 4 = 16
        giveMany 1 1024 4 = 16
        giveMany 2 1024 4 = 16
        """;

    /** Three full sets without a common item: 0 .. 15, 16 .. 31 and 48 .. 63. */
    private static final String APART = """
        giveMany 0 1024 1 = 16
        giveMany 1 1040 1 = 16
        giveMany 2 1072 1 = 16
        """;

    private static final String[] STATES = {NEW, SOME, FULL};

    private static String sentence = "";
    private static int wrong = 0;
    private static final Set<String> sentences = new HashSet<>();

    public static void main(String[] args) {
        whatItIsAndTerms();
        promises1To3();
        promise4();
        promises5To8();
        promises9To11();
        promises12To15();
        promises16To18();
        System.out.println(sentences.size() + " sentences: "
            + (wrong == 0 ? "all answers are as due" : wrong + " answers are not as due"));
        if (wrong != 0) {
            System.exit(1);
        }
    }

    private static void whatItIsAndTerms() {
        own("What it is: An object is used for at most 512 calls after it has been made",
            BoundaryTest::theLastOf512Calls);
        own("What it is: what later calls answer is free.", BoundaryTest::callsPast512End);
        own("Terms: ITEMS are numbered 0 .. 63.", BoundaryTest::firstAndLastItem);
        own("Terms: There are three PARTIES, 0 .. 2", BoundaryTest::firstAndLastParty);
        own("Terms: each holds a set of at most 16 items", BoundaryTest::sixteenItemsForEachParty);
        own("Terms: empty at first", BoundaryTest::emptyAtFirst);
        own("Terms: has for every item that it holds a WEIGHT, an int", BoundaryTest::leastAndGreatestWeight);
        own("Terms: Every party also has a secret number (any int)", BoundaryTest::leastAndGreatestSecret);
        own("Terms: no answer of any call depends on the secrets", BoundaryTest::secretsDoNotShow);
        own("Terms: No question changes anything that a later answer shows.", BoundaryTest::questionsChangeNothing);
        own("Terms: A refused call changes nothing.", BoundaryTest::refusedCallsInARow);
        own("Terms: In every method the tests are made in the order named", BoundaryTest::orderOfTheTests);
        own("Terms: a party is good if it is 0 .. 2", BoundaryTest::everyMethodKnowsGoodParties);
        own("Terms: an item if it is 0 .. 63", BoundaryTest::everyMethodKnowsGoodItems);
    }

    private static void promises1To3() {
        own("1: a, b and c are the secrets of the parties 0, 1 and 2 at first.", BoundaryTest::anyIntsMakeAnObject);

        own("2: Gives a party another secret.", BoundaryTest::anyIntIsASecret);
        own("2: -1 if party is not good; otherwise 0.", BoundaryTest::secretOfABadParty);

        own("3: A party gets an item with a weight", BoundaryTest::giveEachItem);
        own("3: (if it holds the item already, only the weight changes)", BoundaryTest::giveAnItemHeldAlready);
        own("3: -1 if party is not good", BoundaryTest::giveToABadParty);
        own("3: -2 if item is not good", BoundaryTest::giveABadItem);
        own("3: -3 if it holds 16 items and this one is not among them", BoundaryTest::giveASeventeenthItem);
        own("3: otherwise answers how many it holds now", BoundaryTest::giveFromNoneToSixteen);
    }

    private static void promise4() {
        own("4: the items first, first + step, first + 2 * step, .. modulo 64 (remainders in 0 .. 63)",
            BoundaryTest::giveManyRoundPast63);
        own("4: count of them", BoundaryTest::giveManyOneAndSixteen);
        own("4: each with the weight 1", BoundaryTest::giveManyWeighsOne);
        own("4: as far as it does not hold them yet", BoundaryTest::giveManySomeHeldAlready);
        own("4: those that it holds already keep their weight", BoundaryTest::giveManyKeepsWeights);
        own("4: spec is 64 * count + first", BoundaryTest::giveManySpecsWhereCountRises);
        own("4: -1 if party is not good", BoundaryTest::giveManyToABadParty);
        own("4: -2 if spec is not in 64 .. 1087 (count 1 .. 16)", BoundaryTest::giveManyWithABadSpec);
        own("4: -3 if step is not in 1 .. 63", BoundaryTest::giveManyWithABadStep);
        own("4: -4 if it would hold more than 16 items", BoundaryTest::giveManyPastSixteen);
        own("4: otherwise answers how many it holds now", BoundaryTest::giveManyCountsItemsMetAgainOnce);
    }

    private static void promises5To8() {
        own("5: A party loses an item.", BoundaryTest::takeTheFirstAndTheLastItem);
        own("5: -1 if party is not good", BoundaryTest::takeFromABadParty);
        own("5: -2 if item is not good", BoundaryTest::takeABadItem);
        own("5: -3 if it does not hold it", BoundaryTest::takeWhatIsNotHeld);
        own("5: otherwise answers how many it holds now", BoundaryTest::takeFromSixteenToNone);

        own("6: A party loses all its items", BoundaryTest::clearLeavesNothingBehind);
        own("6: -1 if party is not good", BoundaryTest::clearABadParty);
        own("6: otherwise answers how many those were", BoundaryTest::clearNoneOneAndSixteen);

        own("7: How many items a party holds", BoundaryTest::heldFromNoneToSixteen);
        own("7: -1 if party is not good", BoundaryTest::heldByABadParty);

        own("8: 1 if a party holds an item, otherwise 0.", BoundaryTest::holdsAtTheEdges);
        own("8: -1 if party is not good", BoundaryTest::holdsOfABadParty);
        own("8: -2 if item is not good", BoundaryTest::holdsOfABadItem);
    }

    private static void promises9To11() {
        own("9: How many items both p and q hold.", BoundaryTest::commonFromNoneToSixteen);
        own("9: -1 if p or q is not good.", BoundaryTest::commonWithABadParty);
        own("9: (For p = q: how many p holds.)", BoundaryTest::commonWithItself);

        own("10: The i-th item, in rising order (0 for the first), that both p and q hold.",
            BoundaryTest::commonItemFirstAndLast);
        own("10: -1 if p or q is not good", BoundaryTest::commonItemWithABadParty);
        own("10: -2 if there is no such one", BoundaryTest::commonItemThatThereIsNot);

        own("11: The sum of the weights that p has for the items that both p and q hold",
            BoundaryTest::commonWeightOfNoneOneAndSixteen);
        own("11: (wrapping like an int)", BoundaryTest::commonWeightWraps);
        own("11: 0 if p or q is not good", BoundaryTest::commonWeightWithABadParty);
    }

    private static void promises12To15() {
        own("12: How many items all three parties hold.", BoundaryTest::commonToAllFromNoneToSixteen);

        own("13: The i-th item, in rising order, that all three parties hold", BoundaryTest::itemOfAllFirstAndLast);
        own("13: -1 if there is no such one", BoundaryTest::itemOfAllThatThereIsNot);

        own("14: How many items at least one party holds.", BoundaryTest::anyFromNoneTo48);

        own("15: How many items just k of the three parties hold", BoundaryTest::heldByJustNoneAndAll);
        own("15: -1 if k is not in 1 .. 3", BoundaryTest::heldByJustABadNumber);
    }

    private static void promises16To18() {
        own("16: How many items p holds that no other party holds", BoundaryTest::aloneFromNoneToSixteen);
        own("16: -1 if p is not good", BoundaryTest::aloneOfABadParty);

        own("17: 1 if every item that p holds is held by q, otherwise 0", BoundaryTest::withinEmptyAlikeAndOneMore);
        own("17: -1 if p or q is not good", BoundaryTest::withinWithABadParty);

        own("18: in the last exchange that a call made", BoundaryTest::trafficOfTheLastExchangeOnly);
        own("18: (common, commonItem, commonWeight or within, with p and q good and different)",
            BoundaryTest::trafficOfTheseCallsOnly);
        own("18: the number of items of p plus that of q, less the number of common ones",
            BoundaryTest::trafficFromNoneTo32);
        own("18: (also where commonItem then answers -2)", BoundaryTest::trafficWhereThereIsNoSuchItem);
        own("18: 0 if there was no such call yet", BoundaryTest::trafficBeforeAnyExchange);
    }

    // How the tests speak to the object.

    private static void own(String words, Runnable test) {
        sentence = words;
        if (!sentences.add(words)) {
            throw new IllegalStateException("listed twice: " + words);
        }
        test.run();
    }

    private static void due(String what, Object got, Object want) {
        if (!got.equals(want)) {
            wrong++;
            System.out.println("'" + sentence + "': " + what + " answered " + got + ", due is " + want);
        }
    }

    private static PrivateIntersect fresh() {
        return new PrivateIntersect(5, 77, -9);
    }

    private static int number(String word) {
        return word.equals("MIN") ? MIN : word.equals("MAX") ? MAX : Integer.parseInt(word);
    }

    private static int call(PrivateIntersect x, String text) {
        String[] words = text.trim().split(" +");
        int[] a = new int[words.length - 1];
        for (int n = 0; n < a.length; n++) {
            a[n] = number(words[n + 1]);
        }
        switch (words[0] + "/" + a.length) {
            case "secret/2": return x.secret(a[0], a[1]);
            case "give/3": return x.give(a[0], a[1], a[2]);
            case "giveMany/3": return x.giveMany(a[0], a[1], a[2]);
            case "take/2": return x.take(a[0], a[1]);
            case "clear/1": return x.clear(a[0]);
            case "held/1": return x.held(a[0]);
            case "holds/2": return x.holds(a[0], a[1]);
            case "common/2": return x.common(a[0], a[1]);
            case "commonItem/3": return x.commonItem(a[0], a[1], a[2]);
            case "commonWeight/2": return x.commonWeight(a[0], a[1]);
            case "commonToAll/0": return x.commonToAll();
            case "itemOfAll/1": return x.itemOfAll(a[0]);
            case "any/0": return x.any();
            case "heldByJust/1": return x.heldByJust(a[0]);
            case "alone/1": return x.alone(a[0]);
            case "within/2": return x.within(a[0], a[1]);
            case "traffic/0": return x.traffic();
            default: throw new IllegalArgumentException(text);
        }
    }

    private static void row(PrivateIntersect x, String text) {
        int equals = text.indexOf('=');
        String callText = text.substring(0, equals).trim();
        due(callText, call(x, callText), number(text.substring(equals + 1).trim()));
    }

    private static void go(PrivateIntersect x, String rows) {
        rows.lines().filter(line -> !line.isBlank()).forEach(line -> row(x, line));
    }

    private static PrivateIntersect run(String... parts) {
        PrivateIntersect x = fresh();
        for (String part : parts) {
            go(x, part);
        }
        return x;
    }

    /** All that later answers can show: it empties the object, as only so each weight is seen by itself. */
    private static List<Integer> everything(PrivateIntersect x) {
        List<Integer> seen = new ArrayList<>(List.of(x.traffic(), x.any(), x.commonToAll()));
        for (int party = 0; party < 3; party++) {
            int left = x.held(party);
            seen.add(left);
            for (; left > 0; left--) {
                int item = x.commonItem(party, party, 0);
                int before = x.commonWeight(party, party);
                x.take(party, item);
                seen.add(item);
                seen.add(before - x.commonWeight(party, party));
            }
            // A weight that was left behind would show where the item comes back.
            for (int first = 0; first < 64; first += 16) {
                seen.add(x.giveMany(party, 1024 + first, 1));
                seen.add(x.commonWeight(party, party));
                seen.add(x.clear(party));
            }
        }
        seen.add(x.traffic());
        return seen;
    }

    /** The call answers as is due, and afterwards all is as in an object without the call. */
    private static void refusedIn(String state, String row) {
        PrivateIntersect x = run(state);
        row(x, row);
        due("everything after " + row, everything(x), everything(run(state)));
    }

    /** In every state, with each of the values in the place of the question mark. */
    private static void refused(String row, int... values) {
        for (int value : values) {
            for (String state : STATES) {
                refusedIn(state, row.replace("?", "" + value));
            }
        }
    }

    private static void refusedForBadPartyPairs(String row) {
        refused(row.replace("q", "0").replace("p", "?"), BAD_PARTIES);
        refused(row.replace("q", "2").replace("p", "?"), BAD_PARTIES);
        refused(row.replace("p", "0").replace("q", "?"), BAD_PARTIES);
        refused(row.replace("p", "2").replace("q", "?"), BAD_PARTIES);
        refused(row.replace("p", "?").replace("q", "?"), BAD_PARTIES);
        refused(row.replace("p", "-1").replace("q", "?"), BAD_PARTIES);
        refused(row.replace("p", "?").replace("q", "3"), BAD_PARTIES);
    }

    // What it is, and Terms.

    private static void theLastOf512Calls() {
        // The first of each run, SOME, has 12 calls; each filler leaves all as it is.
        String[] fillers = {
            "secret 0 8 = 0", "give 0 63 5 = 4", "giveMany 0 74 1 = 4", "take 0 1 = -3", "clear 3 = -1",
            "held 0 = 4", "holds 0 0 = 1", "common 0 1 = 3", "commonItem 0 1 3 = -2", "commonWeight 0 1 = 2147483645",
            "commonToAll = 2", "itemOfAll 1 = 63", "any = 6", "heldByJust 3 = 2", "alone 0 = 1", "within 1 0 = 0",
            "traffic = 5"};
        String[] last = {
            "secret 1 4 = 0", "give 2 1 9 = 4", "giveMany 2 833 1 = 16", "take 1 63 = 3", "clear 0 = 4", "held 1 = 4",
            "holds 2 63 = 1", "common 1 2 = 2", "commonItem 1 0 2 = 63", "commonWeight 1 1 = -2147483342",
            "commonToAll = 2", "itemOfAll 0 = 20", "any = 6", "heldByJust 1 = 3", "alone 2 = 1", "within 0 0 = 1",
            "traffic = 5"};
        for (String filler : fillers) {
            for (String row : last) {
                PrivateIntersect x = run(SOME);
                for (int made = 12; made < 511; made++) {
                    row(x, filler);
                }
                row(x, row);
            }
        }
        changesUpToCall512();
    }

    private static void changesUpToCall512() {
        PrivateIntersect x = fresh();
        for (int made = 0; made < 510; made += 2) {
            row(x, "give 1 " + made / 2 % 64 + " 7 = 1");
            row(x, "take 1 " + made / 2 % 64 + " = 0");
        }
        row(x, "giveMany 1 1087 63 = 16");
        row(x, "commonItem 1 1 15 = 63");
    }

    /** No answer is due, but LANGUAGE.md, rule 7, lets no call throw or fail to end. */
    private static void callsPast512End() {
        PrivateIntersect x = run(FULL);
        String[] calls = {"secret 0 1", "give 0 ? 1", "giveMany 1 ? 63", "take 0 ?", "clear ?", "held ?", "holds 0 ?",
            "common ? 1", "commonItem 0 1 ?", "commonWeight 0 ?", "commonToAll", "itemOfAll ?", "any", "heldByJust ?",
            "alone ?", "within ? 0", "traffic"};
        for (int n = 0; n < 3000; n++) {
            call(x, calls[n % calls.length].replace("?", "" + INTS[n % INTS.length]));
        }
    }

    private static void firstAndLastItem() {
        run("""
            give 0 0 7 = 1
            give 0 63 8 = 2
            give 0 -1 9 = -2
            give 0 64 9 = -2
            giveMany 1 64 1 = 1
            giveMany 1 127 1 = 2
            give 2 63 1 = 1
            give 2 0 1 = 2
            holds 0 0 = 1
            holds 0 63 = 1
            holds 0 -1 = -2
            holds 0 64 = -2
            commonItem 0 1 0 = 0
            commonItem 0 1 1 = 63
            itemOfAll 0 = 0
            itemOfAll 1 = 63
            commonWeight 0 1 = 15
            any = 2
            heldByJust 3 = 2
            take 0 -1 = -2
            take 0 64 = -2
            take 0 0 = 1
            take 0 63 = 0
            """);
    }

    private static void firstAndLastParty() {
        run("""
            give -1 5 1 = -1
            give 0 5 10 = 1
            give 1 5 20 = 1
            give 2 5 30 = 1
            give 3 5 40 = -1
            give 2 6 31 = 2
            held -1 = -1
            held 0 = 1
            held 1 = 1
            held 2 = 2
            held 3 = -1
            commonWeight 0 1 = 10
            commonWeight 1 2 = 20
            commonWeight 2 0 = 30
            commonWeight 2 3 = 0
            commonWeight 2 2 = 61
            take 0 5 = 0
            holds 1 5 = 1
            holds 2 5 = 1
            clear 2 = 2
            holds 1 5 = 1
            """);
    }

    private static void sixteenItemsForEachParty() {
        PrivateIntersect x = fresh();
        for (int party = 0; party < 3; party++) {
            for (int n = 0; n < 15; n++) {
                row(x, "give " + party + " " + (party + 3 * n) + " 1 = " + (n + 1));
            }
            row(x, "giveMany " + party + " 190 1 = -4");
            row(x, "give " + party + " 62 1 = 16");
            row(x, "give " + party + " 63 1 = -3");
            row(x, "giveMany " + party + " 127 1 = -4");
            row(x, "take " + party + " 62 = 15");
            row(x, "giveMany " + party + " 127 1 = 16");
            row(x, "give " + party + " 62 1 = -3");
        }
        go(x, """
            held 0 = 16
            held 1 = 16
            held 2 = 16
            any = 46
            """);
    }

    private static void emptyAtFirst() {
        for (int party = 0; party < 3; party++) {
            PrivateIntersect x = fresh();
            for (int item = 0; item < 64; item++) {
                row(x, "holds " + party + " " + item + " = 0");
                row(x, "take " + party + " " + item + " = -3");
            }
            row(x, "held " + party + " = 0");
            row(x, "clear " + party + " = 0");
            row(x, "alone " + party + " = 0");
            for (int other = 0; other < 3; other++) {
                String pair = party + " " + other;
                row(x, "common " + pair + " = 0");
                row(x, "commonItem " + pair + " 0 = -2");
                row(x, "commonWeight " + pair + " = 0");
                row(x, "within " + pair + " = 1");
                row(x, "traffic = 0");
            }
        }
        run("""
            commonToAll = 0
            itemOfAll 0 = -1
            any = 0
            heldByJust 1 = 0
            heldByJust 2 = 0
            heldByJust 3 = 0
            traffic = 0
            """);
    }

    private static void leastAndGreatestWeight() {
        for (int weight : INTS) {
            for (int item : new int[] {0, 31, 32, 63}) {
                PrivateIntersect x = fresh();
                // Each party has a weight of its own for the same item.
                for (int party = 0; party < 3; party++) {
                    row(x, "give " + party + " " + item + " " + (weight ^ party) + " = 1");
                }
                for (int party = 0; party < 3; party++) {
                    for (int other = 0; other < 3; other++) {
                        row(x, "commonWeight " + party + " " + other + " = " + (weight ^ party));
                    }
                    row(x, "holds " + party + " " + item + " = 1");
                }
            }
        }
    }

    private static void leastAndGreatestSecret() {
        for (int value : INTS) {
            PrivateIntersect x = new PrivateIntersect(value, value, value);
            go(x, SOME);
            for (int party = 0; party < 3; party++) {
                row(x, "secret " + party + " " + value + " = 0");
                row(x, "secret " + party + " " + ~value + " = 0");
            }
            due("everything with the secret " + value, everything(x), everything(run(SOME)));
        }
    }

    private static void secretsDoNotShow() {
        for (String state : STATES) {
            List<Integer> want = everything(run(state));
            for (int a : INTS) {
                for (int b : INTS) {
                    PrivateIntersect x = new PrivateIntersect(a, b, 64);
                    row(x, "secret 1 " + b + " = 0");
                    go(x, state);
                    row(x, "secret 2 " + a + " = 0");
                    due("everything with the secrets " + a + ", " + b, everything(x), want);
                }
            }
        }
    }

    private static void questionsChangeNothing() {
        List<String> questions = new ArrayList<>(List.of("commonToAll", "any", "traffic"));
        for (int n : new int[] {MIN, -1, 0, 1, 2, 3, 4, 63, 64, MAX}) {
            questions.addAll(List.of("held " + n, "holds " + n + " 63", "holds 1 " + n, "itemOfAll " + n,
                "heldByJust " + n, "alone " + n, "common " + n + " " + n, "commonItem " + n + " " + n + " 0",
                "commonItem 0 0 " + n, "commonWeight " + n + " " + n, "within " + n + " " + n));
        }
        for (String question : questions) {
            for (String state : STATES) {
                PrivateIntersect x = run(state);
                int answer = call(x, question);
                due(question + " again", call(x, question), answer);
                due("everything after " + question, everything(x), everything(run(state)));
            }
        }
        comparisonsChangeTrafficAlone();
    }

    private static void comparisonsChangeTrafficAlone() {
        for (String pair : new String[] {"0 1", "1 0", "0 2", "2 0", "1 2", "2 1"}) {
            for (String row : new String[] {"common " + pair, "commonItem " + pair + " 0", "commonItem " + pair + " 16",
                "commonItem " + pair + " -1", "commonWeight " + pair, "within " + pair}) {
                for (String state : STATES) {
                    PrivateIntersect x = run(state);
                    int answer = call(x, row);
                    due(row + " again", call(x, row), answer);
                    // The same exchange by another call: promise 18 asks that traffic tells of it.
                    PrivateIntersect y = run(state);
                    call(y, "within " + pair);
                    due("everything after " + row, everything(x), everything(y));
                }
            }
        }
    }

    private static void refusedCallsInARow() {
        String always = """
            secret -1 1 = -1
            secret 3 1 = -1
            give -1 63 1 = -1
            give 3 63 1 = -1
            give 0 -1 1 = -2
            give 2 64 1 = -2
            giveMany -1 64 1 = -1
            giveMany 3 64 1 = -1
            giveMany 0 63 1 = -2
            giveMany 2 1088 1 = -2
            giveMany 0 64 0 = -3
            giveMany 2 64 64 = -3
            take -1 63 = -1
            take 3 63 = -1
            take 0 -1 = -2
            take 2 64 = -2
            take 1 47 = -3
            clear -1 = -1
            clear 3 = -1
            held 3 = -1
            holds 3 63 = -1
            holds 0 64 = -2
            common 0 3 = -1
            common -1 2 = -1
            commonItem 0 3 0 = -1
            commonItem -1 2 0 = -1
            commonItem 1 1 16 = -2
            commonWeight 0 3 = 0
            commonWeight -1 2 = 0
            itemOfAll 16 = -1
            heldByJust 0 = -1
            heldByJust 4 = -1
            alone 3 = -1
            within 0 3 = -1
            within -1 2 = -1
            """;
        String whenFull = """
            give 0 16 1 = -3
            give 1 7 1 = -3
            give 2 0 1 = -3
            giveMany 0 143 1 = -4
            giveMany 1 1024 63 = -4
            giveMany 2 127 1 = 16
            giveMany 2 191 1 = -4
            """;
        for (String state : STATES) {
            due("everything", everything(run(state, always, always)), everything(run(state)));
        }
        due("everything", everything(run(FULL, whenFull, always, whenFull)), everything(run(FULL)));
    }

    private static void orderOfTheTests() {
        refused("give ? -1 1 = -1", BAD_PARTIES);
        refused("give -1 ? 1 = -1", BAD_ITEMS);
        refused("give 0 ? 1 = -2", BAD_ITEMS);
        refused("giveMany ? 63 1 = -1", BAD_PARTIES);
        refused("giveMany ? 64 0 = -1", BAD_PARTIES);
        refused("giveMany ? 1088 64 = -1", BAD_PARTIES);
        refused("giveMany 3 ? 0 = -1", BAD_SPECS);
        refused("giveMany 3 64 ? = -1", BAD_STEPS);
        refused("giveMany 0 ? 0 = -2", BAD_SPECS);
        refused("giveMany 2 ? 64 = -2", BAD_SPECS);
        refused("giveMany 1 1088 ? = -2", BAD_STEPS);
        refused("giveMany 1 1072 ? = -3", BAD_STEPS);
        refused("take ? 64 = -1", BAD_PARTIES);
        refused("take 3 ? = -1", BAD_ITEMS);
        refused("take 1 ? = -2", BAD_ITEMS);
        refused("holds ? -1 = -1", BAD_PARTIES);
        refused("holds -1 ? = -1", BAD_ITEMS);
        refused("commonItem ? 0 -1 = -1", BAD_PARTIES);
        refused("commonItem 0 ? 16 = -1", BAD_PARTIES);
    }

    private static void everyMethodKnowsGoodParties() {
        String[] calls = {"secret ? 1", "give ? 20 1", "giveMany ? 64 1", "take ? 20", "clear ?", "held ?",
            "holds ? 0", "common ? 0", "common 0 ?", "commonItem ? 0 0", "commonItem 0 ? 0", "alone ?", "within ? 0",
            "within 0 ?"};
        for (String text : calls) {
            for (int good = 0; good <= 2; good++) {
                int answer = call(run(SOME), text.replace("?", "" + good));
                due(text + " of the party " + good + " is not refused", answer >= 0, true);
            }
            refused(text + " = -1", BAD_PARTIES);
        }
        for (int good = 0; good <= 2; good++) {
            int answer = call(run(SOME, "give 2 63 5 = 3"), "commonWeight " + good + " 2");
            due("commonWeight of the party " + good + " is not 0", answer != 0, true);
        }
        refused("commonWeight ? 2 = 0", BAD_PARTIES);
        refused("commonWeight 2 ? = 0", BAD_PARTIES);
    }

    private static void everyMethodKnowsGoodItems() {
        for (int item = 0; item <= 63; item++) {
            run("holds 1 " + item + " = 0\n" + "give 1 " + item + " 4 = 1\n" + "holds 1 " + item + " = 1\n"
                + "commonItem 1 1 0 = " + item + "\n" + "take 1 " + item + " = 0\n" + "holds 1 " + item + " = 0\n");
        }
        refused("give 1 ? 4 = -2", BAD_ITEMS);
        refused("take 1 ? = -2", BAD_ITEMS);
        refused("holds 1 ? = -2", BAD_ITEMS);
    }

    // Promise 1: a new object.

    private static void anyIntsMakeAnObject() {
        List<Integer> want = everything(fresh());
        for (int a : INTS) {
            for (int b : INTS) {
                for (int c : INTS) {
                    due("everything of a new object", everything(new PrivateIntersect(a, b, c)), want);
                }
            }
        }
    }

    // Promise 2: secret.

    private static void anyIntIsASecret() {
        for (int value : INTS) {
            for (int party = 0; party < 3; party++) {
                for (String state : STATES) {
                    // The same secret a second time is no other case.
                    String row = "secret " + party + " " + value + " = 0\n";
                    due("everything after " + row, everything(run(state, row, row)), everything(run(state)));
                }
            }
        }
    }

    private static void secretOfABadParty() {
        refused("secret ? 0 = -1", BAD_PARTIES);
        refused("secret ? MIN = -1", BAD_PARTIES);
        refused("secret ? MAX = -1", BAD_PARTIES);
        run("""
            secret 0 1 = 0
            secret 1 1 = 0
            secret 2 1 = 0
            """);
    }

    // Promise 3: give.

    private static void giveEachItem() {
        for (int item = 0; item < 64; item++) {
            for (int weight : INTS) {
                run("give 2 " + item + " " + weight + " = 1\n" + "holds 2 " + item + " = 1\n"
                    + "commonWeight 2 2 = " + weight + "\n" + "held 0 = 0\n" + "held 1 = 0\n");
            }
        }
    }

    private static void giveAnItemHeldAlready() {
        String otherWeights = """
            give 0 0 MIN = 16
            commonWeight 0 0 = -2147483633
            give 0 15 MAX = 16
            commonWeight 0 0 = 13
            give 0 15 0 = 16
            commonWeight 0 0 = -2147483634
            give 0 0 -9 = 16
            give 0 15 1 = 16
            commonWeight 0 0 = 6
            """;
        PrivateIntersect x = run(FULL, otherWeights);
        due("everything after the weights are as they were", everything(x), everything(run(FULL)));
        run("""
            give 1 5 7 = 1
            give 1 5 7 = 1
            give 1 5 8 = 1
            commonWeight 1 1 = 8
            take 1 5 = 0
            give 1 5 9 = 1
            commonWeight 1 1 = 9
            """);
    }

    private static void giveToABadParty() {
        refused("give ? 0 7 = -1", BAD_PARTIES);
        refused("give ? 63 7 = -1", BAD_PARTIES);
        refused("give ? 64 7 = -1", BAD_PARTIES);
        run("""
            give 0 0 7 = 1
            give 2 0 7 = 1
            """);
    }

    private static void giveABadItem() {
        refused("give 0 ? 7 = -2", BAD_ITEMS);
        refused("give 2 ? 7 = -2", BAD_ITEMS);
        run("""
            give 2 0 7 = 1
            give 2 63 7 = 2
            """);
    }

    private static void giveASeventeenthItem() {
        for (int item = 0; item < 64; item++) {
            givenWhenFull(0, item, item <= 15);
            givenWhenFull(1, item, item >= 8 && item <= 23);
            givenWhenFull(2, item, item >= 48);
        }
        refusedIn(FULL, "give 0 16 MIN = -3");
        run(FULL, """
            take 0 15 = 15
            give 0 16 7 = 16
            give 0 15 7 = -3
            clear 0 = 16
            give 0 15 7 = 1
            """);
    }

    private static void givenWhenFull(int party, int item, boolean among) {
        String give = "give " + party + " " + item + " 7 = ";
        if (among) {
            run(FULL, give + "16");
        } else {
            refusedIn(FULL, give + "-3");
            // With 15 items held there is room for just this one.
            run(FULL, "take " + party + " 15 = " + (party == 2 ? -3 : 15),
                "take " + party + " 50 = " + (party == 2 ? 15 : -3), give + "16");
        }
    }

    private static void giveFromNoneToSixteen() {
        for (int party = 0; party < 3; party++) {
            PrivateIntersect x = fresh();
            for (int n = 1; n <= 16; n++) {
                row(x, "give " + party + " " + (64 - n) + " " + n + " = " + n);
                row(x, "give " + party + " 63 1 = " + n);
            }
            row(x, "held " + party + " = 16");
        }
    }

    // Promise 4: giveMany.

    private static void giveManyRoundPast63() {
        for (int first = 0; first < 64; first++) {
            for (int step = 1; step < 64; step++) {
                PrivateIntersect x = fresh();
                boolean[] met = new boolean[64];
                int item = first;
                int different = 0;
                for (int n = 0; n < 16; n++) {
                    different += met[item] ? 0 : 1;
                    met[item] = true;
                    item += step;
                    item -= item > 63 ? 64 : 0;
                }
                row(x, "giveMany 0 " + (1024 + first) + " " + step + " = " + different);
                for (item = 0; item < 64; item++) {
                    due("first " + first + ", step " + step + ": holds(0, " + item + ")",
                        x.holds(0, item), met[item] ? 1 : 0);
                }
            }
        }
        run("""
            giveMany 0 190 1 = 2
            commonItem 0 0 0 = 62
            commonItem 0 0 1 = 63
            giveMany 1 191 1 = 2
            commonItem 1 1 0 = 0
            commonItem 1 1 1 = 63
            giveMany 2 128 63 = 2
            commonItem 2 2 0 = 0
            commonItem 2 2 1 = 63
            """);
    }

    private static void giveManyOneAndSixteen() {
        for (int count = 1; count <= 16; count++) {
            PrivateIntersect x = fresh();
            row(x, "giveMany 1 " + (64 * count + 3) + " 3 = " + count);
            row(x, "commonItem 1 1 0 = 3");
            row(x, "commonItem 1 1 " + (count - 1) + " = " + 3 * count);
            row(x, "commonItem 1 1 " + count + " = -2");
        }
    }

    private static void giveManyWeighsOne() {
        for (int spec : new int[] {64, 127, 128, 1024, 1087}) {
            for (int step : new int[] {1, 7, 63}) {
                PrivateIntersect x = fresh();
                int count = spec / 64;
                row(x, "giveMany 2 " + spec + " " + step + " = " + count);
                for (int left = count; left > 0; left--) {
                    row(x, "commonWeight 2 2 = " + left);
                    x.take(2, x.commonItem(2, 2, 0));
                }
            }
        }
        // An item that was lost comes back with 1, and one that is met twice has 1 too.
        run("""
            give 0 0 50 = 1
            take 0 0 = 0
            giveMany 0 64 1 = 1
            commonWeight 0 0 = 1
            give 0 0 50 = 1
            clear 0 = 1
            giveMany 0 1024 32 = 2
            commonWeight 0 0 = 2
            """);
    }

    private static void giveManySomeHeldAlready() {
        // None, the first, the middle one, the last, two and all of the three items.
        for (int held = 0; held < 8; held++) {
            PrivateIntersect x = fresh();
            int want = 3;
            for (int n = 0; n < 3; n++) {
                if ((held >> n & 1) == 1) {
                    x.give(0, (62 + n) % 64, 10);
                    want += 9;
                }
            }
            row(x, "giveMany 0 254 1 = 3");
            row(x, "commonWeight 0 0 = " + want);
            row(x, "holds 0 62 = 1");
            row(x, "holds 0 63 = 1");
            row(x, "holds 0 0 = 1");
        }
        // What another party holds is not held.
        run("""
            give 1 5 10 = 1
            giveMany 0 69 1 = 1
            commonWeight 0 1 = 1
            commonWeight 1 0 = 10
            """);
    }

    private static void giveManyKeepsWeights() {
        for (int weight : INTS) {
            for (int item : new int[] {0, 15, 48, 63}) {
                PrivateIntersect x = fresh();
                row(x, "give 1 " + item + " " + weight + " = 1");
                row(x, "giveMany 1 " + (64 + item) + " 1 = 1");
                row(x, "commonWeight 1 1 = " + weight);
                row(x, "giveMany 1 " + (1024 + item) + " 63 = 16");
                row(x, "commonWeight 1 1 = " + (weight + 15));
            }
        }
        due("everything after all were held", everything(run(FULL, "giveMany 0 1024 1 = 16", "giveMany 2 1087 63 = 16")),
            everything(run(FULL)));
    }

    private static void giveManySpecsWhereCountRises() {
        for (int count = 1; count <= 16; count++) {
            run("giveMany 0 " + 64 * count + " 1 = " + count + "\n" + "commonItem 0 0 0 = 0\n"
                + "commonItem 0 0 " + (count - 1) + " = " + (count - 1) + "\n");
            run("giveMany 0 " + (64 * count + 63) + " 63 = " + count + "\n"
                + "commonItem 0 0 0 = " + (64 - count) + "\n"
                + "commonItem 0 0 " + (count - 1) + " = 63\n");
        }
    }

    private static void giveManyToABadParty() {
        refused("giveMany ? 64 1 = -1", BAD_PARTIES);
        refused("giveMany ? 1087 63 = -1", BAD_PARTIES);
        refused("giveMany ? 63 0 = -1", BAD_PARTIES);
        run("""
            giveMany 0 64 1 = 1
            giveMany 2 64 1 = 1
            """);
    }

    private static void giveManyWithABadSpec() {
        refused("giveMany 0 ? 1 = -2", BAD_SPECS);
        refused("giveMany 2 ? 63 = -2", BAD_SPECS);
        refused("giveMany 1 ? 0 = -2", BAD_SPECS);
        run("""
            giveMany 0 64 1 = 1
            giveMany 1 1087 1 = 16
            giveMany 2 1087 1 = 16
            """);
    }

    private static void giveManyWithABadStep() {
        refused("giveMany 0 64 ? = -3", BAD_STEPS);
        refused("giveMany 2 1087 ? = -3", BAD_STEPS);
        refused("giveMany 1 1024 ? = -3", BAD_STEPS);
        run("""
            giveMany 0 130 1 = 2
            holds 0 3 = 1
            giveMany 1 130 63 = 2
            holds 1 1 = 1
            """);
    }

    private static void giveManyPastSixteen() {
        for (int held = 0; held <= 16; held++) {
            // The party holds 40 .. 39 + held; the items given begin at the last "met" of these.
            String hold = held == 0 ? NEW : "giveMany 1 " + (64 * held + 40) + " 1 = " + held + "\n";
            for (int met = 0; met <= held; met++) {
                for (int count = Math.max(1, met); count <= 16; count++) {
                    int after = held + count - met;
                    String give = "giveMany 1 " + (64 * count + (40 + held - met) % 64) + " 1 = ";
                    if (after > 16) {
                        refusedIn(hold, give + "-4");
                    } else {
                        run(hold, give + after, "held 1 = " + after);
                    }
                }
            }
        }
        refusedIn(FULL, "giveMany 0 80 1 = -4");
        refusedIn(FULL, "giveMany 0 127 63 = -4");
        refusedIn(FULL, "giveMany 0 143 1 = -4");
        refusedIn(FULL, "giveMany 2 191 1 = -4");
        refusedIn(FULL, "giveMany 2 1087 1 = -4");
        refusedIn(FULL, "giveMany 2 1087 32 = -4");
    }

    private static void giveManyCountsItemsMetAgainOnce() {
        // 32 comes round after 2 items, 16 and 48 after 4, 8 after 8, 4 and 60 after 16.
        run("""
            giveMany 0 1087 32 = 2
            giveMany 0 1087 16 = 4
            giveMany 0 1087 48 = 4
            giveMany 0 1087 8 = 8
            giveMany 0 1087 4 = 16
            giveMany 0 1087 60 = 16
            giveMany 0 1087 32 = 16
            commonWeight 0 0 = 16
            """);
        // 15 are held: two new ones are too many, one that is met sixteen times is not.
        String fifteen = "giveMany 0 960 1 = 15\n";
        refusedIn(fifteen, "giveMany 0 1044 32 = -4");
        run(fifteen, "giveMany 0 1056 32 = 16", "holds 0 32 = 1", "commonWeight 0 0 = 16");
        String fourteen = "giveMany 0 896 1 = 14\n";
        run(fourteen, "giveMany 0 1044 32 = 16", "holds 0 20 = 1", "holds 0 52 = 1");
    }

    // Promise 5: take.

    private static void takeTheFirstAndTheLastItem() {
        run(SOME, """
            take 0 0 = 3
            holds 0 0 = 0
            commonItem 0 0 0 = 10
            take 0 63 = 2
            holds 0 63 = 0
            commonItem 0 0 1 = 20
            holds 1 63 = 1
            holds 2 63 = 1
            commonWeight 0 0 = 2147483640
            commonToAll = 1
            traffic = 5
            """);
    }

    private static void takeFromABadParty() {
        refused("take ? 0 = -1", BAD_PARTIES);
        refused("take ? 63 = -1", BAD_PARTIES);
        refused("take ? 64 = -1", BAD_PARTIES);
        run(SOME, """
            take 0 63 = 3
            take 2 63 = 2
            """);
    }

    private static void takeABadItem() {
        refused("take 0 ? = -2", BAD_ITEMS);
        refused("take 2 ? = -2", BAD_ITEMS);
        run(SOME, """
            take 0 0 = 3
            take 0 63 = 2
            """);
    }

    private static void takeWhatIsNotHeld() {
        for (int item = 0; item < 64; item++) {
            refusedIn(NEW, "take 0 " + item + " = -3");
            if (item > 15) {
                refusedIn(FULL, "take 0 " + item + " = -3");
            }
            if (item < 48) {
                refusedIn(FULL, "take 2 " + item + " = -3");
            }
        }
        refusedIn(SOME + "take 0 63 = 3\n", "take 0 63 = -3");
        refusedIn(SOME + "clear 0 = 4\n", "take 0 63 = -3");
        refusedIn(SOME, "take 0 30 = -3");
    }

    private static void takeFromSixteenToNone() {
        for (int party = 0; party < 3; party++) {
            PrivateIntersect x = run(ALIKE, "common 0 1 = 16");
            for (int left = 15; left >= 0; left--) {
                row(x, "take " + party + " " + 4 * left + " = " + left);
                row(x, "held " + party + " = " + left);
            }
            row(x, "take " + party + " 0 = -3");
            row(x, "any = 16");
            row(x, "traffic = 16");
        }
    }

    // Promise 6: clear.

    private static void clearLeavesNothingBehind() {
        for (int party = 0; party < 3; party++) {
            PrivateIntersect x = run(FULL, "clear " + party + " = 16");
            for (int item = 0; item < 64; item++) {
                row(x, "holds " + party + " " + item + " = 0");
            }
            row(x, "held " + party + " = 0");
            row(x, "held " + (party + 1) % 3 + " = 16");
            row(x, "held " + (party + 2) % 3 + " = 16");
            row(x, "commonWeight " + party + " " + party + " = 0");
            row(x, "traffic = 24");
            row(x, "giveMany " + party + " 1087 63 = 16");
            row(x, "commonWeight " + party + " " + party + " = 16");
        }
    }

    private static void clearABadParty() {
        refused("clear ? = -1", BAD_PARTIES);
        run(SOME, """
            clear 0 = 4
            clear 2 = 3
            """);
    }

    private static void clearNoneOneAndSixteen() {
        for (int party = 0; party < 3; party++) {
            refusedIn(NEW, "clear " + party + " = 0");
            run("give " + party + " 63 0 = 1", "clear " + party + " = 1", "clear " + party + " = 0");
            run("give " + party + " 0 0 = 1", "clear " + party + " = 1", "clear " + party + " = 0");
            run(FULL, "clear " + party + " = 16", "clear " + party + " = 0");
        }
    }

    // Promise 7: held.

    private static void heldFromNoneToSixteen() {
        for (int party = 0; party < 3; party++) {
            PrivateIntersect x = fresh();
            row(x, "held " + party + " = 0");
            for (int n = 1; n <= 16; n++) {
                row(x, "give " + party + " " + (63 - 4 * (n - 1)) + " 0 = " + n);
                row(x, "held " + party + " = " + n);
            }
            row(x, "give " + party + " 0 0 = -3");
            row(x, "held " + party + " = 16");
        }
    }

    private static void heldByABadParty() {
        refused("held ? = -1", BAD_PARTIES);
        run(SOME, """
            held 0 = 4
            held 2 = 3
            """);
    }

    // Promise 8: holds.

    private static void holdsAtTheEdges() {
        PrivateIntersect none = fresh();
        PrivateIntersect full = run(FULL);
        for (int item = 0; item < 64; item++) {
            row(none, "holds 0 " + item + " = 0");
            row(full, "holds 0 " + item + " = " + (item <= 15 ? 1 : 0));
            row(full, "holds 1 " + item + " = " + (item >= 8 && item <= 23 ? 1 : 0));
            row(full, "holds 2 " + item + " = " + (item >= 48 ? 1 : 0));
        }
        run("""
            give 0 63 0 = 1
            holds 0 63 = 1
            holds 0 62 = 0
            holds 0 0 = 0
            holds 1 63 = 0
            """);
    }

    private static void holdsOfABadParty() {
        refused("holds ? 0 = -1", BAD_PARTIES);
        refused("holds ? 63 = -1", BAD_PARTIES);
        refused("holds ? 64 = -1", BAD_PARTIES);
        run(SOME, """
            holds 0 63 = 1
            holds 2 63 = 1
            """);
    }

    private static void holdsOfABadItem() {
        refused("holds 0 ? = -2", BAD_ITEMS);
        refused("holds 2 ? = -2", BAD_ITEMS);
        run(SOME, """
            holds 0 0 = 1
            holds 0 63 = 1
            """);
    }

    // Promise 9: common.

    private static void commonFromNoneToSixteen() {
        // Party 0 holds 0 .. 15, party 2 sixteen items of which just n are among these.
        for (int n = 0; n <= 16; n++) {
            run("giveMany 0 1024 1 = 16", "giveMany 2 " + (1024 + 16 - n) + " 1 = 16",
                "common 0 2 = " + n, "common 2 0 = " + n, "common 0 1 = 0", "common 1 2 = 0");
        }
        run(ALIKE, "common 0 1 = 16", "common 1 2 = 16", "common 2 0 = 16");
        run(APART, "common 0 1 = 0", "common 1 2 = 0", "common 2 0 = 0");
        run("""
            give 0 0 1 = 1
            give 1 63 1 = 1
            common 0 1 = 0
            give 1 0 1 = 2
            common 0 1 = 1
            give 0 63 1 = 2
            common 0 1 = 2
            """);
    }

    private static void commonWithABadParty() {
        refusedForBadPartyPairs("common p q = -1");
        run(SOME, "common 0 2 = 2", "common 2 0 = 2");
    }

    private static void commonWithItself() {
        for (int party = 0; party < 3; party++) {
            String row = "common " + party + " " + party + " = ";
            refusedIn(NEW, row + "0");
            refusedIn(SOME, row + (party == 2 ? 3 : 4));
            refusedIn(FULL, row + "16");
        }
        refused("common ? ? = -1", BAD_PARTIES);
    }

    // Promise 10: commonItem.

    private static void commonItemFirstAndLast() {
        PrivateIntersect x = fresh();
        // Given in falling order to the one and in an order of its own to the other.
        for (int n = 15; n >= 0; n--) {
            x.give(0, n == 15 ? 63 : 4 * n, n);
            x.give(1, n * 7 % 16 == 15 ? 63 : 4 * (n * 7 % 16), n);
        }
        for (int i = 0; i < 16; i++) {
            int item = i == 15 ? 63 : 4 * i;
            row(x, "commonItem 0 1 " + i + " = " + item);
            row(x, "commonItem 1 0 " + i + " = " + item);
            row(x, "commonItem 0 0 " + i + " = " + item);
        }
        run("""
            give 0 63 1 = 1
            give 2 63 1 = 1
            commonItem 0 2 0 = 63
            give 0 0 1 = 2
            give 2 0 1 = 2
            commonItem 0 2 0 = 0
            commonItem 0 2 1 = 63
            take 2 0 = 1
            commonItem 0 2 0 = 63
            """);
    }

    private static void commonItemWithABadParty() {
        refusedForBadPartyPairs("commonItem p q 0 = -1");
        refusedForBadPartyPairs("commonItem p q -1 = -1");
        refusedForBadPartyPairs("commonItem p q 16 = -1");
        run(SOME, "commonItem 0 2 0 = 20", "commonItem 2 0 0 = 20");
    }

    private static void commonItemThatThereIsNot() {
        int[] never = {-1, 16, -2, 17, 63, 64, 256, 65536, MIN, MIN + 1, MAX};
        for (int i : never) {
            run("commonItem 0 1 " + i + " = -2", "commonItem 2 2 " + i + " = -2");
            run(SOME, "commonItem 0 1 " + i + " = -2", "commonItem 1 1 " + i + " = -2");
            run(ALIKE, "commonItem 0 1 " + i + " = -2", "commonItem 2 2 " + i + " = -2");
            run(APART, "commonItem 0 1 " + i + " = -2");
        }
        refused("commonItem 0 0 ? = -2", never);
        run("commonItem 0 1 0 = -2", "commonItem 0 0 0 = -2");
        run(APART, "commonItem 0 1 0 = -2", "commonItem 2 1 0 = -2");
        run(ALIKE, "commonItem 0 1 15 = 60", "commonItem 0 1 16 = -2");
        run(SOME, """
            commonItem 0 1 2 = 63
            commonItem 0 1 3 = -2
            commonItem 0 0 3 = 63
            commonItem 0 0 4 = -2
            """);
    }

    // Promise 11: commonWeight.

    private static void commonWeightOfNoneOneAndSixteen() {
        run("commonWeight 0 1 = 0", "commonWeight 1 1 = 0");
        run(APART, "commonWeight 0 1 = 0", "commonWeight 2 0 = 0", "commonWeight 2 2 = 16");
        run(ALIKE, "commonWeight 0 1 = 16", "commonWeight 2 0 = 16", "give 0 60 -14 = 16", "commonWeight 0 1 = 1",
            "commonWeight 1 0 = 16");
        run("""
            give 0 0 -4 = 1
            give 0 63 7 = 2
            give 1 63 9 = 1
            commonWeight 0 1 = 7
            commonWeight 1 0 = 9
            commonWeight 0 0 = 3
            commonWeight 0 2 = 0
            give 1 0 0 = 2
            commonWeight 0 1 = 3
            commonWeight 1 0 = 9
            take 1 63 = 1
            commonWeight 0 1 = -4
            commonWeight 1 0 = 0
            """);
    }

    private static void commonWeightWraps() {
        int[][] weights = {{MAX, 1}, {MAX, MAX}, {MIN, -1}, {MIN, MIN}, {MIN, MAX}, {MAX, 0}, {MIN, 0}, {MAX, -1},
            {MIN, 1}, {1 << 30, 1 << 30}, {-1 << 30, -1 << 30}};
        int[] want = {MIN, -2, MAX, 0, -1, MAX, MIN, MAX - 1, MIN + 1, MIN, MIN};
        for (int n = 0; n < weights.length; n++) {
            for (int q = 0; q < 3; q++) {
                run("give 1 0 " + weights[n][0] + " = 1", "give 1 63 " + weights[n][1] + " = 2",
                    q == 1 ? "held 1 = 2" : "giveMany " + q + " 191 1 = 2", "commonWeight 1 " + q + " = " + want[n]);
            }
        }
        int[] sixteen = {MAX, MIN, MAX / 8, 1 << 28, -1};
        int[] sums = {-16, 0, -16, 0, -16};
        for (int n = 0; n < sixteen.length; n++) {
            PrivateIntersect x = run(ALIKE);
            for (int item = 0; item < 64; item += 4) {
                row(x, "give 2 " + item + " " + sixteen[n] + " = 16");
            }
            row(x, "commonWeight 2 0 = " + sums[n]);
            row(x, "commonWeight 2 2 = " + sums[n]);
            row(x, "commonWeight 0 2 = 16");
        }
    }

    private static void commonWeightWithABadParty() {
        refusedForBadPartyPairs("commonWeight p q = 0");
        run(SOME, "commonWeight 0 2 = -2147483644", "commonWeight 2 0 = 0", "give 2 20 9 = 3", "commonWeight 2 0 = 8");
    }

    // Promise 12: commonToAll.

    private static void commonToAllFromNoneToSixteen() {
        run("commonToAll = 0");
        run(APART, "commonToAll = 0");
        for (int party = 0; party < 3; party++) {
            PrivateIntersect x = run(ALIKE, "commonToAll = 16");
            for (int left = 15; left >= 0; left--) {
                row(x, "take " + party + " " + 4 * left + " = " + left);
                row(x, "commonToAll = " + left);
            }
            // Two parties alone do not make all three, whichever it is that lacks them.
            run(ALIKE, "clear " + party + " = 16", "commonToAll = 0");
        }
        run("give 0 63 1 = 1", "give 1 63 1 = 1", "commonToAll = 0", "give 2 63 1 = 1", "commonToAll = 1");
    }

    // Promise 13: itemOfAll.

    private static void itemOfAllFirstAndLast() {
        PrivateIntersect x = run(ALIKE);
        for (int i = 0; i < 16; i++) {
            row(x, "itemOfAll " + i + " = " + 4 * i);
        }
        run(SOME, "itemOfAll 0 = 20", "itemOfAll 1 = 63", "take 2 20 = 2", "itemOfAll 0 = 63",
            "give 1 0 1 = 5", "itemOfAll 0 = 63", "give 2 0 1 = 3", "itemOfAll 0 = 0", "itemOfAll 1 = 63");
    }

    private static void itemOfAllThatThereIsNot() {
        refused("itemOfAll ? = -1", -1, 16, -2, 17, 63, 64, 256, 65536, MIN, MIN + 1, MAX);
        refusedIn(NEW, "itemOfAll 0 = -1");
        refusedIn(APART, "itemOfAll 0 = -1");
        refusedIn(SOME, "itemOfAll 2 = -1");
        refusedIn(ALIKE, "itemOfAll 16 = -1");
        refusedIn(ALIKE, "itemOfAll -1 = -1");
        for (int party = 0; party < 3; party++) {
            run(ALIKE, "clear " + party + " = 16", "itemOfAll 0 = -1");
            run(ALIKE, "take " + party + " 0 = 15", "itemOfAll 0 = 4", "itemOfAll 14 = 60", "itemOfAll 15 = -1");
        }
    }

    // Promise 14: any.

    private static void anyFromNoneTo48() {
        run("any = 0");
        run(ALIKE, "any = 16", "clear 0 = 16", "any = 16", "clear 1 = 16", "any = 16", "clear 2 = 16", "any = 0");
        run(APART, "any = 48", "clear 0 = 16", "any = 32", "clear 1 = 16", "any = 16", "clear 2 = 16", "any = 0");
        for (int party = 0; party < 3; party++) {
            run("give " + party + " 0 1 = 1", "any = 1", "give " + party + " 63 1 = 2", "any = 2",
                "take " + party + " 0 = 1", "any = 1", "take " + party + " 63 = 0", "any = 0");
        }
    }

    // Promise 15: heldByJust.

    private static void heldByJustNoneAndAll() {
        run("heldByJust 1 = 0", "heldByJust 2 = 0", "heldByJust 3 = 0");
        run(ALIKE, "heldByJust 1 = 0", "heldByJust 2 = 0", "heldByJust 3 = 16");
        run(APART, "heldByJust 1 = 48", "heldByJust 2 = 0", "heldByJust 3 = 0");
        for (int party = 0; party < 3; party++) {
            run(ALIKE, "clear " + party + " = 16", "heldByJust 1 = 0", "heldByJust 2 = 16", "heldByJust 3 = 0");
            run("give " + party + " 63 1 = 1", "heldByJust 1 = 1", "heldByJust 2 = 0", "heldByJust 3 = 0");
        }
        // Three full sets, each item in just two of them.
        run("giveMany 0 1024 1 = 16", "giveMany 1 1032 1 = 16", "giveMany 2 528 1 = 8", "giveMany 2 512 1 = 16",
            "heldByJust 1 = 0", "heldByJust 2 = 24", "heldByJust 3 = 0");
    }

    private static void heldByJustABadNumber() {
        refused("heldByJust ? = -1", 0, 4, -1, -2, -3, 5, 64, 256 + 1, 65536 + 1, MIN, MIN + 1, MAX);
        run(SOME, "heldByJust 1 = 3", "heldByJust 2 = 1", "heldByJust 3 = 2");
    }

    // Promise 16: alone.

    private static void aloneFromNoneToSixteen() {
        run("alone 0 = 0", "alone 1 = 0", "alone 2 = 0");
        run(ALIKE, "alone 0 = 0", "alone 1 = 0", "alone 2 = 0");
        run(APART, "alone 0 = 16", "alone 1 = 16", "alone 2 = 16");
        for (int p = 0; p < 3; p++) {
            int next = (p + 1) % 3;
            int last = (p + 2) % 3;
            // One of the others is enough, and the two may each have a part.
            run(ALIKE, "clear " + next + " = 16", "alone " + p + " = 0", "alone " + last + " = 0",
                "clear " + last + " = 16", "alone " + p + " = 16", "clear " + p + " = 16", "alone " + p + " = 0");
            run("giveMany " + p + " 1024 1 = 16", "giveMany " + next + " 512 1 = 8", "alone " + p + " = 8",
                "giveMany " + last + " 520 1 = 8", "alone " + p + " = 0", "alone " + next + " = 0",
                "alone " + last + " = 0", "take " + last + " 15 = 7", "alone " + p + " = 1");
            run("give " + p + " 0 1 = 1", "give " + p + " 63 1 = 2", "alone " + p + " = 2",
                "give " + next + " 0 1 = 1", "alone " + p + " = 1", "give " + last + " 63 1 = 1", "alone " + p + " = 0");
        }
    }

    private static void aloneOfABadParty() {
        refused("alone ? = -1", BAD_PARTIES);
        run(SOME, "alone 0 = 1", "alone 2 = 1");
    }

    // Promise 17: within.

    private static void withinEmptyAlikeAndOneMore() {
        for (int p = 0; p < 3; p++) {
            for (int q = 0; q < 3; q++) {
                String there = "within " + p + " " + q + " = ";
                String back = "within " + q + " " + p + " = ";
                run(there + "1");
                run(ALIKE, there + "1");
                run(APART, there + (p == q ? 1 : 0));
                if (p != q) {
                    run(ALIKE, "clear " + p + " = 16", there + "1", back + "0",
                        "clear " + q + " = 16", there + "1", back + "1");
                    run(ALIKE, "take " + p + " 0 = 15", there + "1", back + "0", "take " + q + " 60 = 15", there + "0",
                        back + "0", "take " + p + " 60 = 14", there + "1", back + "0", "take " + q + " 0 = 14", back + "1");
                    run("give " + p + " 63 1 = 1", there + "0", "give " + q + " 63 2 = 1", there + "1",
                        "give " + p + " 0 1 = 2", there + "0", back + "1");
                }
            }
        }
    }

    private static void withinWithABadParty() {
        refusedForBadPartyPairs("within p q = -1");
        run(SOME, "within 0 2 = 0", "within 2 0 = 0", "take 2 40 = 2", "within 2 0 = 1");
    }

    // Promise 18: traffic.

    private static void trafficOfTheLastExchangeOnly() {
        run(SOME, """
            traffic = 5
            common 0 2 = 2
            traffic = 5
            give 2 41 0 = 4
            traffic = 5
            common 2 0 = 2
            traffic = 6
            commonWeight 1 2 = -2147483642
            traffic = 6
            take 1 30 = 3
            clear 2 = 4
            traffic = 6
            commonItem 1 2 0 = -2
            traffic = 3
            clear 1 = 3
            within 1 2 = 1
            traffic = 0
            giveMany 0 1024 1 = -4
            traffic = 0
            common 0 1 = 0
            traffic = 4
            traffic = 4
            """);
    }

    private static void trafficOfTheseCallsOnly() {
        for (String pair : new String[] {"0 1", "1 0", "0 2", "2 0", "1 2", "2 1"}) {
            int want = pair.contains("2") ? 32 : 24;
            for (String made : new String[] {"common " + pair, "commonItem " + pair + " 0", "commonItem " + pair + " MIN",
                "commonWeight " + pair, "within " + pair}) {
                // Whatever the last exchange was before, the call makes a new one.
                for (String before : new String[] {"common 0 1 = 8", "common 1 2 = 0"}) {
                    PrivateIntersect x = run(FULL, before);
                    call(x, made);
                    due("traffic after " + made, x.traffic(), want);
                }
            }
        }
        refused("commonItem ? ? 0 = -1", BAD_PARTIES);
        refusedForBadPartyPairs("common p q = -1");
        refusedForBadPartyPairs("commonWeight p q = 0");
        refusedForBadPartyPairs("within p q = -1");
        trafficOfNoExchange();
    }

    private static void trafficOfNoExchange() {
        run(FULL, """
            common 2 2 = 16
            commonItem 2 2 15 = 63
            commonItem 2 2 16 = -2
            commonWeight 2 2 = -2147483633
            within 2 2 = 1
            traffic = 24
            commonToAll = 0
            itemOfAll 0 = -1
            any = 40
            heldByJust 1 = 32
            heldByJust 4 = -1
            alone 2 = 16
            held 2 = 16
            holds 2 63 = 1
            traffic = 24
            secret 2 9 = 0
            give 2 0 1 = -3
            give 2 63 1 = 16
            giveMany 2 1087 63 = 16
            take 2 63 = 15
            clear 2 = 15
            traffic = 24
            """);
    }

    private static void trafficFromNoneTo32() {
        run("common 0 1 = 0", "traffic = 0");
        run(APART, "common 0 1 = 0", "traffic = 32", "within 2 1 = 0", "traffic = 32");
        run(ALIKE, "common 0 1 = 16", "traffic = 16", "within 2 1 = 1", "traffic = 16");
        for (int n = 0; n <= 16; n++) {
            String other = "giveMany 2 " + (1024 + 16 - n) + " 1 = 16";
            run("giveMany 0 1024 1 = 16", other, "common 0 2 = " + n, "traffic = " + (32 - n),
                "clear 0 = 16", "common 0 2 = 0", "traffic = 16", "common 2 0 = 0", "traffic = 16",
                "clear 2 = 16", "common 2 0 = 0", "traffic = 0");
        }
        run("give 0 63 1 = 1", "common 0 1 = 0", "traffic = 1", "give 1 63 1 = 1", "common 0 1 = 1", "traffic = 1",
            "give 1 0 1 = 2", "common 0 1 = 1", "traffic = 2");
    }

    private static void trafficWhereThereIsNoSuchItem() {
        for (int i : new int[] {-1, 16, 64, MIN, MAX}) {
            run(FULL, "commonItem 0 2 " + i + " = -2", "traffic = 32", "commonItem 1 0 " + i + " = -2", "traffic = 24",
                "clear 1 = 16", "commonItem 0 1 " + i + " = -2", "traffic = 16");
            run("commonItem 0 1 " + i + " = -2", "traffic = 0", "give 0 63 1 = 1", "commonItem 0 1 " + i + " = -2",
                "traffic = 1");
        }
        // Just inside and just outside of the common ones, and between sets that have none.
        run(FULL, "commonItem 0 1 7 = 15", "traffic = 24", "take 1 23 = 15", "commonItem 0 1 8 = -2", "traffic = 23");
        run(APART, "traffic = 0", "commonItem 0 1 0 = -2", "traffic = 32");
        // The parties are looked at first, so with a bad one there is no exchange.
        refusedForBadPartyPairs("commonItem p q 16 = -1");
        refused("commonItem 1 1 ? = -2", -1, 16, 64, MIN, MAX);
    }

    private static void trafficBeforeAnyExchange() {
        run("traffic = 0");
        run(APART, """
            traffic = 0
            common 0 0 = 16
            commonItem 1 1 0 = 16
            commonItem 1 1 16 = -2
            commonWeight 2 2 = 16
            within 0 0 = 1
            common 0 3 = -1
            commonItem -1 0 0 = -1
            commonWeight 0 3 = 0
            within 3 1 = -1
            traffic = 0
            commonToAll = 0
            itemOfAll 0 = -1
            any = 48
            heldByJust 1 = 48
            alone 0 = 16
            held 0 = 16
            holds 0 0 = 1
            secret 0 6 = 0
            give 0 63 1 = -3
            giveMany 0 1087 1 = -4
            take 0 0 = 15
            clear 1 = 16
            traffic = 0
            common 0 1 = 0
            traffic = 15
            """);
    }
}
