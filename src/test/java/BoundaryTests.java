import java.util.ArrayList;
import java.util.List;
import java.util.function.IntPredicate;
import java.util.function.IntUnaryOperator;

// A test for each sentence of the document that names a boundary case, under that sentence's words,
// shortened. No object gets more than the 512 calls that the document allows, but for one test that
// goes past them.
public final class BoundaryTests {
    private static final int NONE = -1;
    private static final int MIN = Integer.MIN_VALUE;
    private static final int MAX = Integer.MAX_VALUE;
    private static final int PLAIN = content(NONE, NONE, 1);

    // "Some" is transactions 0 to 4 and blocks 0 to 5, with the tip 2.
    private static final int SOME_TRANSACTIONS = 5;
    private static final int SOME_BLOCKS = 6;
    private static final int[] SOME_PARENTS = {NONE, 0, 1, 0, 1, 2};
    private static final Setup SOME = new Setup(SOME_TRANSACTIONS, SOME_BLOCKS);
    private static final Setup NOTHING = new Setup(0, 1);

    private interface Use {
        void on(ReorgLedger x);
    }

    private interface Call {
        int on(ReorgLedger x);
    }

    private interface Way {
        List<Integer> on(ReorgLedger x);
    }

    private static final List<Way> QUESTIONS = questions();

    private static String sentence = "";
    private static int sentences = 0;
    private static int wrong = 0;

    public static void main(String[] args) {
        whatItIs();
        termsOfNumbersAndCoins();
        termsOfStates();
        termsOfTheTip();
        promises1To4();
        promises5To9();
        promises10To13();
        System.out.println(wrong == 0 ? "all " + sentences + " sentences hold" : wrong + " answers are not as due");
        if (wrong != 0) {
            System.exit(1);
        }
    }

    private static void whatItIs() {
        test("used for at most 512 calls", BoundaryTests::theCall512);
        test("what later calls answer is free (but none may throw)", BoundaryTests::callsPast512);
    }

    private static void termsOfNumbersAndCoins() {
        test("Terms: transactions 0 to 15 are numbered in order", BoundaryTests::transactionNumbers);
        test("Terms: blocks 0 to 20 are numbered in order", BoundaryTests::blockNumbers);
        test("Terms: block 0 has no parent, no transactions, work 0, is valid", BoundaryTests::blockZero);
        test("Terms: every block b makes one coin, 32 + b, amount 50", BoundaryTests::blockCoins);
        test("Terms: block 0's coin is owned by owner 0", BoundaryTests::blockZerosCoin);
        test("Terms: t makes coin 2t with its paid amount, the receiver's", BoundaryTests::paidCoins);
        test("Terms: more than that makes coin 2t + 1, the sender's", BoundaryTests::restCoins);
        test("Terms: no more than that makes no coin 2t + 1", BoundaryTests::noRestCoin);
        test("Terms: owners are 0 to 7", BoundaryTests::ownersEdges);
        test("Terms: an owner of coins needn't agree", BoundaryTests::ownersNeedntAgree);
    }

    private static void termsOfStates() {
        test("Terms: a block has up to two transactions", BoundaryTests::upToTwoTransactions);
        test("Terms: .. in order", BoundaryTests::transactionsInOrder);
        test("Terms: the block's coin is added before its transactions", BoundaryTests::blockCoinComesFirst);
        test("Terms: the spent coins go, the made coins come", BoundaryTests::coinsGoAndCome);
        test("Terms: fits if all coins that it spends are unspent", BoundaryTests::allMustBeUnspent);
        test("Terms: two of the same are never all unspent", BoundaryTests::twoOfTheSame);
        test("Terms: amounts together at least the paid amount", BoundaryTests::amountsTogether);
        test("Terms: neither of 2t, 2t + 1 was made on this branch before", BoundaryTests::madeBefore);
        test("Terms: amounts and owners come from the branch", BoundaryTests::coinsOfABranch);
    }

    private static void termsOfTheTip() {
        test("Terms: valid if it is not banned", BoundaryTests::bannedIsNotValid);
        test("Terms: valid if its parent is valid", BoundaryTests::parentMustBeValid);
        test("Terms: valid if each of its transactions fits in its turn", BoundaryTests::eachMustFit);
        test("Terms: the total is the sum from block 0 to it", BoundaryTests::totalIsTheSum);
        test("Terms: the tip stays if no valid block has a greater total", BoundaryTests::tipStays);
        test("Terms: the tip goes to a greater total", BoundaryTests::tipGoesToTheGreater);
        test("Terms: .. or if it is no longer valid, to the smallest of the greatest", BoundaryTests::tipFallsBack);
        test("Terms: only valid blocks become the tip", BoundaryTests::tipIsValid);
        test("Terms: the calls below change nothing", BoundaryTests::queriesChangeNothing);
    }

    private static void promises1To4() {
        test("1: block 0 alone, which is the tip", BoundaryTests::newObjectsBlock);
        test("1: no transactions", BoundaryTests::newObjectsTransactions);
        test("2: if y is not -1, coin y", BoundaryTests::yIsMinusOne);
        test("2: sender owners >> 3 & 7, receiver owners & 7", BoundaryTests::ownersBits);
        test("2: x not in 0 to 63: BAD_COIN", BoundaryTests::badX);
        test("2: y not in -1 to 63: BAD_COIN", BoundaryTests::badY);
        test("2: amount not in 1 to 1000: BAD_AMOUNT", BoundaryTests::badAmount);
        test("2: there are sixteen: FULL", BoundaryTests::fullOfTransactions);
        test("2: else answers its number", BoundaryTests::transactionAnswers);
        test("2: whether it fits any state doesn't matter yet", BoundaryTests::needntFitYet);
        test("3: the first one's number and 1, or 0, in bits 0 to 4", BoundaryTests::firstField);
        test("3: the second one's likewise in bits 5 to 9", BoundaryTests::secondField);
        test("3: the work in bits 10 to 13", BoundaryTests::workField);
        test("3: other bits are not looked at", BoundaryTests::otherBits);
        test("3: parent doesn't exist: NO_BLOCK", BoundaryTests::noParent);
        test("3: a parent that exists will do, valid or not", BoundaryTests::anyParent);
        test("3: miner not in 0 to 7: BAD_OWNER", BoundaryTests::badMiner);
        test("3: a transaction doesn't exist: NO_TX", BoundaryTests::noTransaction);
        test("3: work is 0: BAD_WORK", BoundaryTests::noWork);
        test("3: there are 21 blocks: FULL", BoundaryTests::fullOfBlocks);
        test("3: else answers its number", BoundaryTests::blockAnswers);
        test("4: bans a block, or takes that back", BoundaryTests::banAndBack);
        test("4: it doesn't exist: NO_BLOCK, nothing changes", BoundaryTests::banOfNoBlock);
        test("4: it is block 0: NO_BLOCK, nothing changes", BoundaryTests::banOfBlockZero);
        test("4: else 1 if it was banned before, 0 if not", BoundaryTests::banAnswers);
    }

    private static void promises5To9() {
        test("5: the tip", BoundaryTests::tipAtTheEdges);
        test("6: false if it doesn't exist", BoundaryTests::validOfNoBlock);
        test("6: whether the block is valid", BoundaryTests::validAtTheEdges);
        test("7: NO_BLOCK", BoundaryTests::totalOfNoBlock);
        test("7: the block's total", BoundaryTests::totalAtTheEdges);
        test("8: BAD_OWNER", BoundaryTests::balanceOfNoOwner);
        test("8: the sum of the amounts behind the tip", BoundaryTests::balanceAtTheEdges);
        test("9: false if it is not in 0 to 63", BoundaryTests::unspentOfNoCoin);
        test("9: whether the coin is unspent behind the tip", BoundaryTests::unspentAtTheEdges);
    }

    private static void promises10To13() {
        test("10: blocks at or after the one that has it, the tip counted in", BoundaryTests::confirmationsCount);
        test("10: 0 if none has it", BoundaryTests::confirmationsZero);
        test("10: NO_TX", BoundaryTests::confirmationsOfNoTransaction);
        test("11: blocks on both branches, these counted in", BoundaryTests::sharedAtTheEdges);
        test("11: NO_BLOCK", BoundaryTests::sharedOfNoBlock);
        test("12: whether it fits the state behind the tip", BoundaryTests::fitsAtTheEdges);
        test("12: false if it doesn't exist", BoundaryTests::fitsOfNoTransaction);
        test("13: transaction: BAD_COIN, BAD_AMOUNT, FULL", BoundaryTests::transactionOrder);
        test("13: block: NO_BLOCK, BAD_OWNER, NO_TX, BAD_WORK, FULL", BoundaryTests::blockOrder);
    }

    // ---- What it is

    private static void theCall512() {
        ReorgLedger x = new ReorgLedger();
        int calls = 0;
        for (int t = 0; t < 17; t++, calls++) {
            x.transaction(32, -1, 20, 1);
        }
        for (int b = 0; b < 21; b++, calls++) {
            x.block(b, 2, content(b == 19 ? 15 : NONE, NONE, 1));
        }
        for (; calls < 510; calls++) {
            due("ban 20, call " + calls, x.ban(20, calls % 2 == 0), calls % 2);
        }
        due("call 511", x.tip(), 20);
        due("call 512", x.balance(1), 20);
    }

    private static void callsPast512() {
        ReorgLedger x = new ReorgLedger();
        for (int call = 0; call < 5000; call++) {
            int number = call % 70 - 3;
            x.transaction(number, -1, 20, call);
            x.block(number, call % 9, call);
            x.ban(number, call % 3 == 0);
            callAllQueries(x, number);
        }
    }

    // ---- Terms

    private static void transactionNumbers() {
        ReorgLedger x = new ReorgLedger();
        for (int t = 0; t < 16; t++) {
            x.transaction(64, -1, 1, 0);
            x.transaction(0, -1, 0, 0);
            due("a refused one takes no number: " + t, x.confirmations(t), ReorgLedger.NO_TX);
            due("number", x.transaction(32, -1, 1 + t, 2), t);
        }
        for (int t = 0; t < 16; t++) {
            x.block(0, 1, content(t, NONE, 15));
            due("the one added as number " + t + " has its own amount", x.balance(2), 1 + t);
            due("its coin", x.unspent(2 * t), true);
            x.ban(t + 1, true);
        }
    }

    private static void blockNumbers() {
        ReorgLedger x = new ReorgLedger();
        for (int b = 1; b <= 20; b++) {
            x.block(b, 0, PLAIN);
            x.block(0, 8, PLAIN);
            x.block(0, 0, 0);
            due("a refused one takes no number: " + b, x.total(b), ReorgLedger.NO_BLOCK);
            due("number", x.block(b - 1, 0, PLAIN), b);
            due("the one added as number " + b, x.total(b), b);
        }
    }

    private static void blockZero() {
        ReorgLedger x = SOME.made();
        for (int t = 0; t < SOME_TRANSACTIONS; t++) {
            due("its branch carries no transaction", tipAtZero().confirmations(t), 0);
        }
        due("work 0", x.total(0), 0);
        due("no parent: its branch is it alone", x.shared(0, 0), 1);
        for (int b = 1; b < SOME_BLOCKS; b++) {
            due("every branch begins with it", x.shared(0, b), 1);
            x.ban(b, true);
            due("valid whatever is banned", x.valid(0), true);
        }
        x.ban(0, true);
        due("valid though a ban was tried", x.valid(0), true);
        due("always there", x.tip(), 0);
    }

    private static ReorgLedger tipAtZero() {
        ReorgLedger x = SOME.made();
        x.ban(1, true);
        x.ban(3, true);
        return x;
    }

    private static void blockCoins() {
        for (int last = 0; last <= 20; last++) {
            ReorgLedger x = made(chain(last));
            for (int coin = 0; coin < 64; coin++) {
                due(last + " blocks, coin " + coin, x.unspent(coin), coin >= 32 && coin <= 32 + last);
            }
            for (int owner = 0; owner < 8; owner++) {
                due(last + " blocks, owner " + owner, x.balance(owner), 50 * minedBy(owner, last));
            }
        }
    }

    private static void blockZerosCoin() {
        for (int miner = 1; miner < 8; miner++) {
            ReorgLedger x = new ReorgLedger();
            x.transaction(33, -1, 50, miner);
            x.block(0, miner, content(0, NONE, 1));
            due("coin 32", x.unspent(32), true);
            due("owner 0", x.balance(0), 50);
            due("owner " + miner, x.balance(miner), 50);
        }
    }

    private static void paidCoins() {
        for (int t = 0; t < 16; t++) {
            for (int paid : new int[] {1, 49, 50}) {
                ReorgLedger x = made(lastOf(t, 32, NONE, paid, 1 << 3 | 2));
                x.block(0, 3, content(t, NONE, 1));
                due("transaction " + t, x.unspent(2 * t), true);
                due("receiver of " + paid, x.balance(2), paid);
            }
        }
    }

    private static void restCoins() {
        for (int t = 0; t < 16; t++) {
            for (int paid : new int[] {1, 25, 49}) {
                ReorgLedger x = made(lastOf(t, 32, NONE, paid, 1 << 3 | 2));
                x.block(0, 3, content(t, NONE, 1));
                dueCoins("transaction " + t, x, 2 * t, 2 * t + 1, 33);
                due("receiver", x.balance(2), paid);
                due("sender", x.balance(1), 50 - paid);
            }
        }
        ReorgLedger x = made(lastOf(15, 33, 32, 99, 1 << 3 | 2));
        x.block(0, 3, content(15, NONE, 1));
        dueCoins("two coins, 1 more than is paid", x, 30, 31);
        due("sender of two coins", x.balance(1), 1);
    }

    private static void noRestCoin() {
        ReorgLedger x = new ReorgLedger();
        x.transaction(32, -1, 50, 1 << 3 | 2);
        x.transaction(1, -1, 1, 0);
        x.transaction(33, 34, 100, 1 << 3 | 2);
        x.block(0, 3, content(0, NONE, 1));
        dueCoins("all of a coin", x, 0, 33);
        due("the sender has nothing", x.balance(1), 0);
        due("coin 1 cannot be spent", x.fits(1), false);
        x.block(1, 3, content(2, NONE, 1));
        dueCoins("all of two coins", x, 0, 4);
        due("the sender has nothing still", x.balance(1), 0);
    }

    private static void ownersEdges() {
        for (int owner : new int[] {0, 7}) {
            ReorgLedger x = new ReorgLedger();
            x.transaction(32, -1, 20, owner << 3 | owner);
            due("miner " + owner, x.block(0, owner, content(0, NONE, 1)), 1);
            due("owner " + owner + " has all", x.balance(owner), 100);
            due("owner " + (7 - owner) + " has none", x.balance(7 - owner), 0);
        }
        due("owner -1", new ReorgLedger().balance(-1), ReorgLedger.BAD_OWNER);
        due("owner 8", new ReorgLedger().balance(8), ReorgLedger.BAD_OWNER);
    }

    private static void ownersNeedntAgree() {
        for (int sender = 0; sender < 8; sender++) {
            ReorgLedger x = new ReorgLedger();
            x.transaction(32, -1, 50, sender << 3 | 5);
            due("sender " + sender + " of owner 0's coin", x.fits(0), true);
            x.block(0, 6, content(0, NONE, 1));
            due("is valid", x.valid(1), true);
            due("owner 0 has lost it", x.balance(0), 0);
            due("owner 5 has it", x.balance(5), 50);
        }
    }

    private static void upToTwoTransactions() {
        int[][] pairs = {{NONE, NONE}, {0, NONE}, {NONE, 0}, {0, 1}};
        for (int[] pair : pairs) {
            ReorgLedger x = new ReorgLedger();
            x.transaction(32, -1, 50, 1);
            x.transaction(33, -1, 50, 2);
            x.block(0, 3, content(pair[0], pair[1], 1));
            boolean has0 = pair[0] == 0 || pair[1] == 0;
            boolean has1 = pair[1] == 1;
            due("valid", x.valid(1), true);
            due("transaction 0", x.confirmations(0), has0 ? 1 : 0);
            due("transaction 1", x.confirmations(1), has1 ? 1 : 0);
            due("coin 0", x.unspent(0), has0);
            due("coin 2", x.unspent(2), has1);
        }
    }

    private static void transactionsInOrder() {
        ReorgLedger x = new ReorgLedger();
        x.transaction(32, -1, 20, 1);
        x.transaction(0, -1, 20, 2);
        dueBlock("the second spends what the first makes", x, 0, content(0, 1, 1), true);
        dueBlock("the first spends what the second makes", x, 0, content(1, 0, 1), false);
        dueCoins("behind the first", x, 1, 2, 33);
    }

    private static void blockCoinComesFirst() {
        for (int b = 1; b <= 20; b++) {
            ReorgLedger x = made(chain(b - 1));
            x.transaction(32 + b, -1, 50, 0);
            due("not before block " + b, x.fits(0), false);
            dueBlock("the first spends block " + b + "'s own coin", x, b - 1, content(0, NONE, 1), true);
            due("it has gone", x.unspent(32 + b), false);
            due("and been paid", x.unspent(0), true);
        }
    }

    private static void coinsGoAndCome() {
        ReorgLedger x = new ReorgLedger();
        x.transaction(32, 33, 30, 0);
        x.transaction(1, 0, 1, 0);
        x.block(0, 0, content(0, NONE, 1));
        dueCoins("two go, two come", x, 0, 1);
        x.block(1, 0, PLAIN);
        dueCoins("a block of no transactions takes none", x, 0, 1, 34);
        x.block(2, 0, content(NONE, 1, 1));
        dueCoins("made coins go too", x, 2, 3, 34, 35);
    }

    private static void allMustBeUnspent() {
        ReorgLedger x = new ReorgLedger();
        x.transaction(32, -1, 50, 0);
        x.block(0, 0, content(0, NONE, 1));
        int[][] spent = {{32, -1}, {32, 33}, {33, 32}, {34, -1}, {33, 34}, {34, 33}, {1, -1}, {33, 1}, {63, -1}};
        for (int[] coins : spent) {
            dueFits("one of " + coins[0] + ", " + coins[1] + " is not unspent", x, coins[0], coins[1], 1, false);
        }
        dueFits("both are", x, 33, 0, 100, true);
        dueFits("the only one is", x, 33, -1, 50, true);
    }

    private static void twoOfTheSame() {
        for (int paid : new int[] {1, 50, 51, 100}) {
            ReorgLedger x = new ReorgLedger();
            dueFits("coin 32 twice for " + paid, x, 32, 32, paid, false);
            dueBlock("in a block", x, 0, content(0, NONE, 1), false);
        }
        ReorgLedger x = new ReorgLedger();
        x.transaction(32, -1, 20, 0);
        x.block(0, 0, content(0, NONE, 1));
        dueFits("coin 0 twice", x, 0, 0, 20, false);
        dueFits("coin 1 twice", x, 1, 1, 30, false);
    }

    private static void amountsTogether() {
        ReorgLedger x = new ReorgLedger();
        x.transaction(32, -1, 20, 0);
        x.block(0, 0, content(0, NONE, 1));
        int[][] sums = {{33, -1, 50}, {0, -1, 20}, {1, -1, 30}, {0, 1, 50}, {33, 1, 80}};
        for (int[] sum : sums) {
            String coins = sum[0] + ", " + sum[1];
            dueFits(coins + " for 1 less", x, sum[0], sum[1], sum[2] - 1, true);
            dueFits(coins + " for all", x, sum[0], sum[1], sum[2], true);
            dueFits(coins + " for 1 more", x, sum[0], sum[1], sum[2] + 1, false);
        }
        ReorgLedger z = new ReorgLedger();
        dueFits("1000", z, 32, -1, 1000, false);
    }

    private static void madeBefore() {
        ReorgLedger x = new ReorgLedger();
        x.transaction(32, -1, 20, 0);
        dueBlock("twice in a block", x, 0, content(0, 0, 1), false);
        dueBlock("once", x, 0, content(0, NONE, 1), true);
        due("not again", x.fits(0), false);
        dueBlock("again in the next", x, 2, content(0, NONE, 1), false);
        dueBlock("nothing in the next", x, 2, PLAIN, true);
        dueBlock("again two on", x, 4, content(NONE, 0, 1), false);
        dueBlock("made on another branch alone", x, 0, content(0, NONE, 15), true);
        x.ban(2, true);
        x.ban(6, true);
        due("a banned branch's coins don't count", x.fits(0), true);
    }

    private static void coinsOfABranch() {
        ReorgLedger x = new ReorgLedger();
        x.transaction(32, -1, 20, 1 << 3 | 2);
        x.transaction(1, 33, 75, 3 << 3 | 4);
        x.transaction(0, -1, 20, 5 << 3 | 6);
        x.block(0, 7, content(0, NONE, 1));
        x.block(1, 7, content(1, NONE, 1));
        x.block(0, 7, content(0, 2, 3));
        int[] left = {0, 0, 20, 5, 75, 0, 0, 50};
        int[] right = {0, 30, 0, 0, 0, 0, 20, 50};
        dueBalances("right branch", x, right);
        x.ban(3, true);
        dueBalances("left branch", x, left);
        x.ban(2, true);
        dueBalances("below, before the coins were joined", x, 0, 30, 20, 0, 0, 0, 0, 50);
        x.ban(3, false);
        dueBalances("right branch again", x, right);
    }

    private static void bannedIsNotValid() {
        for (int b = 1; b <= 20; b++) {
            ReorgLedger x = made(chain(20));
            x.ban(b, true);
            due("banned " + b, x.valid(b), false);
            due("below " + b, x.valid(b - 1), true);
            x.ban(b, false);
            due("allowed " + b, x.valid(b), true);
        }
    }

    private static void parentMustBeValid() {
        ReorgLedger x = made(chain(20));
        x.ban(1, true);
        for (int b = 1; b <= 20; b++) {
            due("far above a banned one: " + b, x.valid(b), false);
        }
        x.ban(20, true);
        x.ban(1, false);
        due("below the top", x.valid(19), true);
        due("banned itself", x.valid(20), false);

        ReorgLedger z = new ReorgLedger();
        z.transaction(32, -1, 51, 0);
        dueBlock("doesn't fit", z, 0, content(0, NONE, 1), false);
        dueBlock("above it", z, 1, PLAIN, false);
        dueBlock("two above it", z, 2, PLAIN, false);
        z.ban(1, true);
        z.ban(1, false);
        due("a ban taken back doesn't make it valid", z.valid(1), false);
        due("nor the one above", z.valid(2), false);

        ReorgLedger w = made(chain(1));
        w.ban(1, true);
        dueBlock("added above a banned one", w, 1, PLAIN, false);
        w.ban(1, false);
        due("valid as soon as its parent is", w.valid(2), true);
    }

    private static void eachMustFit() {
        ReorgLedger x = new ReorgLedger();
        x.transaction(32, -1, 50, 0);
        x.transaction(63, -1, 50, 0);
        x.transaction(0, -1, 50, 0);
        x.transaction(32, -1, 40, 0);
        dueBlock("neither fits", x, 0, content(1, 1, 1), false);
        dueBlock("the first alone fits", x, 0, content(0, 1, 1), false);
        dueBlock("the second alone fits", x, 0, content(1, 0, 1), false);
        dueBlock("the second fits after the first", x, 0, content(0, 2, 1), true);
        dueBlock("the second fits but for the first", x, 0, content(0, 3, 1), false);
        dueBlock("the only one, as the first", x, 0, content(1, NONE, 1), false);
        dueBlock("the only one, as the second", x, 0, content(NONE, 1, 1), false);
        dueBlock("fits behind its parent's branch", x, 0, PLAIN, true);
        dueBlock("though not behind the tip", x, 8, content(0, NONE, 1), true);
    }

    private static void totalIsTheSum() {
        for (int work : new int[] {1, 15}) {
            ReorgLedger x = new ReorgLedger();
            for (int b = 1; b <= 20; b++) {
                x.block(b - 1, 0, content(NONE, NONE, work));
                due("block " + b, x.total(b), b * work);
            }
        }
        ReorgLedger z = made(chain(2));
        z.block(1, 0, content(NONE, NONE, 9));
        due("a branch beside doesn't count", z.total(3), 10);
        z.ban(1, true);
        due("a ban changes no total above", z.total(3), 10);
        due("nor its own", z.total(1), 1);
    }

    private static void tipStays() {
        ReorgLedger x = new ReorgLedger();
        x.block(0, 0, content(NONE, NONE, 1));
        x.block(0, 0, content(NONE, NONE, 5));
        due("block 2", x.tip(), 2);
        x.block(1, 0, content(NONE, NONE, 4));
        due("an equal one is added above a smaller one", x.tip(), 2);
        x.ban(2, true);
        due("the other", x.tip(), 3);
        x.ban(2, false);
        due("an equal, smaller one is allowed again", x.tip(), 3);
        x.ban(2, true);
        due("an equal one is banned", x.tip(), 3);
        x.ban(3, false);
        due("it is allowed though it was", x.tip(), 3);
        x.block(0, 0, content(NONE, NONE, 4));
        due("one less is added", x.tip(), 3);
    }

    private static void tipGoesToTheGreater() {
        ReorgLedger x = made(chain(3));
        x.block(0, 0, content(NONE, NONE, 4));
        due("one more, added", x.tip(), 4);
        x.ban(4, true);
        due("back", x.tip(), 3);
        x.ban(4, false);
        due("one more, allowed again", x.tip(), 4);
        x.block(3, 0, content(NONE, NONE, 2));
        due("one more, on the first branch", x.tip(), 5);
        x.ban(1, true);
        x.block(5, 0, content(NONE, NONE, 15));
        due("not while its branch is banned", x.tip(), 4);
        x.ban(1, false);
        due("its whole branch is allowed again", x.tip(), 6);
    }

    private static void tipFallsBack() {
        ReorgLedger x = new ReorgLedger();
        int[] works = {2, 6, 6, 7, 6, 7};
        for (int work : works) {
            x.block(0, 0, content(NONE, NONE, work));
        }
        due("the first of the greatest", x.tip(), 4);
        int[] next = {6, 2, 3, 5, 1, 0};
        for (int tip : next) {
            x.ban(x.tip(), true);
            due("next", x.tip(), tip);
        }
        ReorgLedger z = made(chain(20));
        z.ban(1, true);
        due("a banned ancestor far below", z.tip(), 0);
        z.ban(1, false);
        z.ban(20, true);
        due("one below", z.tip(), 19);
    }

    private static void tipIsValid() {
        ReorgLedger x = new ReorgLedger();
        x.transaction(63, -1, 1, 0);
        x.block(0, 0, content(0, NONE, 15));
        due("its transaction doesn't fit", x.tip(), 0);
        x.block(1, 0, content(NONE, NONE, 15));
        due("its parent is not valid", x.tip(), 0);
        x.block(0, 0, PLAIN);
        due("a light valid one", x.tip(), 3);
        x.ban(3, true);
        x.block(3, 0, content(NONE, NONE, 15));
        due("its parent is banned", x.tip(), 0);
        x.ban(4, true);
        x.ban(3, false);
        due("it is banned itself", x.tip(), 3);
    }

    private static void queriesChangeNothing() {
        for (int number : new int[] {MIN, -1, 0, 1, 2, 4, 5, 6, 8, 15, 16, 21, 32, 63, 64, MAX}) {
            dueNoChange("valid " + number, SOME, x -> x.valid(number) ? 1 : 0);
            dueNoChange("total " + number, SOME, x -> x.total(number));
            dueNoChange("balance " + number, SOME, x -> x.balance(number));
            dueNoChange("unspent " + number, SOME, x -> x.unspent(number) ? 1 : 0);
            dueNoChange("confirmations " + number, SOME, x -> x.confirmations(number));
            dueNoChange("shared " + number, SOME, x -> x.shared(number, 2));
            dueNoChange("shared 2 " + number, SOME, x -> x.shared(2, number));
            dueNoChange("fits " + number, SOME, x -> x.fits(number) ? 1 : 0);
        }
        dueNoChange("tip", SOME, ReorgLedger::tip);
        queriesLeaveOneAnother();
    }

    // Pairs on objects of their own show what a query changes for its own kind alone.
    private static void queriesLeaveOneAnother() {
        List<Call> queries = queries();
        for (int q = 0; q < queries.size(); q++) {
            int want = queries.get(q).on(SOME.made());
            for (int before = 0; before < queries.size(); before++) {
                ReorgLedger x = SOME.made();
                queries.get(before).on(x);
                due("query " + q + " after query " + before, queries.get(q).on(x), want);
            }
        }
    }

    private static List<Call> queries() {
        List<Call> queries = new ArrayList<>();
        queries.add(ReorgLedger::tip);
        for (int n = -1; n <= 8; n++) {
            int number = n;
            queries.add(x -> x.valid(number) ? 1 : 0);
            queries.add(x -> x.total(number));
            queries.add(x -> x.balance(number));
            queries.add(x -> x.confirmations(number));
            queries.add(x -> x.fits(number) ? 1 : 0);
            for (int b = -1; b <= SOME_BLOCKS; b++) {
                int other = b;
                queries.add(x -> x.shared(number, other));
            }
        }
        for (int n = -1; n <= 64; n++) {
            int coin = n;
            queries.add(x -> x.unspent(coin) ? 1 : 0);
        }
        return queries;
    }

    // ---- Promise 1

    private static void newObjectsBlock() {
        ReorgLedger x = new ReorgLedger();
        due("tip", x.tip(), 0);
        due("valid 0", x.valid(0), true);
        due("total 0", x.total(0), 0);
        due("total 1", x.total(1), ReorgLedger.NO_BLOCK);
        dueCoins("its coin alone", x, 32);
        dueBalances("owner 0", x, 50, 0, 0, 0, 0, 0, 0, 0);
        due("the next is 1", x.block(0, 0, PLAIN), 1);
        due("another object is new still", new ReorgLedger().tip(), 0);
    }

    private static void newObjectsTransactions() {
        ReorgLedger x = new ReorgLedger();
        for (int t = 0; t <= 16; t++) {
            due("confirmations " + t, x.confirmations(t), ReorgLedger.NO_TX);
            due("fits " + t, x.fits(t), false);
        }
        due("not in a block", x.block(0, 0, content(0, NONE, 1)), ReorgLedger.NO_TX);
        due("the next is 0", x.transaction(32, -1, 1, 0), 0);
        due("another object has none", new ReorgLedger().confirmations(0), ReorgLedger.NO_TX);
    }

    // ---- Promise 2

    private static void yIsMinusOne() {
        ReorgLedger x = made(chain(1));
        x.transaction(32, -1, 50, 0);
        x.transaction(32, -1, 51, 0);
        x.transaction(32, 33, 51, 0);
        x.transaction(32, 0, 50, 0);
        due("-1: one coin is enough", x.fits(0), true);
        due("-1: and brings no more", x.fits(1), false);
        due("33: two coins", x.fits(2), true);
        due("0 is a coin, not none", x.fits(3), false);
        x.block(1, 0, content(0, NONE, 1));
        dueCoins("-1: nothing else goes", x, 0, 33, 34);
    }

    private static void ownersBits() {
        for (int sender = 0; sender < 8; sender++) {
            for (int receiver = 0; receiver < 8; receiver++) {
                for (int high : new int[] {0, 1 << 6, -1 << 6, 1 << 31, MAX & -1 << 6}) {
                    dueOwners(sender, receiver, high | sender << 3 | receiver);
                }
            }
        }
    }

    private static void dueOwners(int sender, int receiver, int owners) {
        ReorgLedger x = new ReorgLedger();
        x.transaction(32, -1, 20, owners);
        x.transaction(33, -1, 50, 0);
        x.block(0, 0, content(0, 1, 1));
        int[] balances = {50, 0, 0, 0, 0, 0, 0, 0};
        balances[sender] += 30;
        balances[receiver] += 20;
        dueBalances("owners " + owners, x, balances);
    }

    private static void badX() {
        for (int coin : new int[] {MIN, -64, -32, -2, -1, 64, 65, 96, 128, MAX}) {
            Call call = x -> x.transaction(coin, -1, 1, 0);
            dueRefused("x " + coin, SOME, call, ReorgLedger.BAD_COIN);
            dueRefused("x " + coin, NOTHING, call, ReorgLedger.BAD_COIN);
        }
        due("x 0", new ReorgLedger().transaction(0, -1, 1, 0), 0);
        due("x 63", new ReorgLedger().transaction(63, -1, 1, 0), 0);
    }

    private static void badY() {
        for (int coin : new int[] {MIN, -64, -32, -3, -2, 64, 65, 96, 128, MAX}) {
            Call call = x -> x.transaction(32, coin, 1, 0);
            dueRefused("y " + coin, SOME, call, ReorgLedger.BAD_COIN);
            dueRefused("y " + coin, NOTHING, call, ReorgLedger.BAD_COIN);
        }
        due("y -1", new ReorgLedger().transaction(32, -1, 1, 0), 0);
        due("y 0", new ReorgLedger().transaction(32, 0, 1, 0), 0);
        due("y 63", new ReorgLedger().transaction(32, 63, 1, 0), 0);
    }

    private static void badAmount() {
        for (int amount : new int[] {MIN, -1000, -1, 0, 1001, 1024, 65537, MAX}) {
            Call call = x -> x.transaction(32, -1, amount, 0);
            dueRefused("amount " + amount, SOME, call, ReorgLedger.BAD_AMOUNT);
            dueRefused("amount " + amount, NOTHING, call, ReorgLedger.BAD_AMOUNT);
        }
        due("amount 1", new ReorgLedger().transaction(32, -1, 1, 0), 0);
        due("amount 1000", new ReorgLedger().transaction(32, -1, 1000, 0), 0);
    }

    private static void fullOfTransactions() {
        Setup sixteen = manyTransactions(16);
        for (int coin : new int[] {0, 32, 33, 63}) {
            Call call = x -> x.transaction(coin, -1, 3, 45);
            dueRefused("seventeenth, of coin " + coin, sixteen, call, ReorgLedger.FULL);
        }
        due("the sixteenth", manyTransactions(15).made().transaction(32, -1, 3, 45), 15);
        ReorgLedger x = sixteen.made();
        x.block(2, 0, content(15, NONE, 1));
        due("full still, with blocks", x.transaction(32, -1, 3, 45), ReorgLedger.FULL);
    }

    private static void transactionAnswers() {
        for (int count = SOME_TRANSACTIONS; count < 16; count++) {
            ReorgLedger x = manyTransactions(count).made();
            due("before", x.confirmations(count), ReorgLedger.NO_TX);
            due("number", x.transaction(32, -1, 1, 0), count);
            due("after", x.confirmations(count), 0);
        }
    }

    private static void needntFitYet() {
        ReorgLedger x = new ReorgLedger();
        due("a coin that is never made", x.transaction(63, -1, 1, 0), 0);
        due("a coin twice", x.transaction(32, 32, 1, 0), 1);
        due("its own coin", x.transaction(4, 5, 1, 0), 2);
        due("more than the coin has", x.transaction(32, -1, 1000, 0), 3);
        due("a coin of a block to come", x.transaction(33, -1, 50, 0), 4);
        for (int t = 0; t < 5; t++) {
            due("doesn't fit yet: " + t, x.fits(t), false);
            due("but exists: " + t, x.confirmations(t), 0);
        }
        x.block(0, 0, PLAIN);
        due("now the last one does", x.fits(4), true);
    }

    // ---- Promise 3

    private static void firstField() {
        for (int t = 0; t < 16; t++) {
            ReorgLedger x = made(equalTransactions());
            due("first is " + t, x.block(0, 0, t + 1 | 1 << 10), 1);
            dueCarriedAlone(x, t);
        }
        ReorgLedger x = made(equalTransactions());
        due("none", x.block(0, 0, 1 << 10), 1);
        dueCoins("none is carried out", x, 32, 33);
    }

    private static void secondField() {
        for (int t = 0; t < 16; t++) {
            ReorgLedger x = made(equalTransactions());
            due("second is " + t, x.block(0, 0, t + 1 << 5 | 1 << 10), 1);
            dueCarriedAlone(x, t);
        }
        ReorgLedger x = made(equalTransactions());
        due("first alone", x.block(0, 0, 16 | 0 << 5 | 1 << 10), 1);
        dueCarriedAlone(x, 15);
    }

    private static void dueCarriedAlone(ReorgLedger x, int transaction) {
        due("valid", x.valid(1), true);
        for (int t = 0; t < 16; t++) {
            due(transaction + " is carried out, " + t, x.confirmations(t), t == transaction ? 1 : 0);
        }
    }

    private static void workField() {
        for (int work = 1; work <= 15; work++) {
            ReorgLedger x = new ReorgLedger();
            due("work " + work, x.block(0, 0, work << 10), 1);
            due("total", x.total(1), work);
        }
    }

    private static void otherBits() {
        for (int bit = 14; bit < 32; bit++) {
            ReorgLedger x = made(equalTransactions());
            due("bit " + bit, x.block(0, 3, content(15, NONE, 15) | 1 << bit), 1);
            due("total", x.total(1), 15);
            dueCarriedAlone(x, 15);
            due("alone they are no work", x.block(0, 3, 1 << bit), ReorgLedger.BAD_WORK);
        }
        due("all of them", new ReorgLedger().block(0, 3, PLAIN | -1 << 14), 1);
    }

    private static void noParent() {
        for (int parent : new int[] {MIN, -32, -1, SOME_BLOCKS, 20, 21, 32, 34, 64, MAX}) {
            Call call = x -> x.block(parent, 0, PLAIN);
            dueRefused("parent " + parent, SOME, call, ReorgLedger.NO_BLOCK);
        }
        dueRefused("parent 1", NOTHING, x -> x.block(1, 0, PLAIN), ReorgLedger.NO_BLOCK);
        due("parent 0", SOME.made().block(0, 0, PLAIN), SOME_BLOCKS);
        due("the last parent", SOME.made().block(SOME_BLOCKS - 1, 0, PLAIN), SOME_BLOCKS);
        due("parent 19", manyBlocks(20).made().block(19, 0, PLAIN), 20);
    }

    private static void anyParent() {
        ReorgLedger x = SOME.made();
        due("above a banned one", x.block(4, 0, PLAIN), 6);
        due("its total", x.total(6), 12);
        due("above one that doesn't fit", x.block(5, 0, PLAIN), 7);
        due("its total", x.total(7), 21);
        due("with a transaction that doesn't fit", x.block(2, 0, content(3, 3, 1)), 8);
        due("none of them is valid", x.valid(6) || x.valid(7) || x.valid(8), false);
        due("the tip is as it was", x.tip(), 2);
    }

    private static void badMiner() {
        for (int miner : new int[] {MIN, -8, -1, 8, 9, 16, MAX}) {
            Call call = x -> x.block(2, miner, PLAIN);
            dueRefused("miner " + miner, SOME, call, ReorgLedger.BAD_OWNER);
        }
        for (int miner = 0; miner < 8; miner++) {
            ReorgLedger x = SOME.made();
            int before = x.balance(miner);
            due("miner " + miner, x.block(2, miner, PLAIN), SOME_BLOCKS);
            due("has the coin", x.balance(miner), before + 50);
        }
    }

    private static void noTransaction() {
        for (int count : new int[] {SOME_TRANSACTIONS, 15, 16}) {
            for (int t = count; t < 31; t++) {
                int missing = t;
                Setup setup = manyTransactions(count);
                dueRefused("first is " + t, setup, x -> x.block(2, 0, content(missing, NONE, 1)), ReorgLedger.NO_TX);
                dueRefused("second is " + t, setup, x -> x.block(2, 0, content(NONE, missing, 1)), ReorgLedger.NO_TX);
                dueRefused("first of two", setup, x -> x.block(2, 0, content(missing, 0, 1)), ReorgLedger.NO_TX);
                dueRefused("second of two", setup, x -> x.block(2, 0, content(0, missing, 1)), ReorgLedger.NO_TX);
            }
            ReorgLedger x = manyTransactions(count).made();
            due("the last one, first", x.block(2, 0, content(count - 1, NONE, 1)), 6);
            due("the last one, second", x.block(2, 0, content(NONE, count - 1, 1)), 7);
        }
        dueRefused("0 of none", NOTHING, x -> x.block(0, 0, content(0, NONE, 1)), ReorgLedger.NO_TX);
    }

    private static void noWork() {
        int[] contents = {0, 1, 1 << 5, content(0, 1, 0), 1 << 14, -1 << 14, 1 << 31};
        for (int content : contents) {
            dueRefused("content " + content, SOME, x -> x.block(2, 0, content), ReorgLedger.BAD_WORK);
        }
        due("work 1", SOME.made().block(2, 0, 1 << 10), SOME_BLOCKS);
    }

    private static void fullOfBlocks() {
        Setup all = manyBlocks(21);
        for (int parent : new int[] {0, 2, 20}) {
            dueRefused("parent " + parent, all, x -> x.block(parent, 1, content(0, NONE, 15)), ReorgLedger.FULL);
            dueRefused("parent " + parent, all, x -> x.block(parent, 1, content(NONE, NONE, 15)), ReorgLedger.FULL);
        }
        due("the twenty-first", manyBlocks(20).made().block(0, 1, PLAIN), 20);
        ReorgLedger x = all.made();
        for (int b = 1; b <= 20; b++) {
            x.ban(b, true);
        }
        due("bans make no room", x.block(0, 1, PLAIN), ReorgLedger.FULL);
    }

    private static void blockAnswers() {
        for (int count = SOME_BLOCKS; count < 21; count++) {
            ReorgLedger x = manyBlocks(count).made();
            due("before", x.total(count), ReorgLedger.NO_BLOCK);
            due("number", x.block(0, 1, content(NONE, NONE, 7)), count);
            due("after", x.total(count), 7);
            ReorgLedger z = manyBlocks(count).made();
            due("one that doesn't become the tip", z.block(0, 1, PLAIN), count);
            ReorgLedger w = manyBlocks(count).made();
            due("one that isn't valid", w.block(5, 1, PLAIN), count);
        }
    }

    // ---- Promise 4

    private static void banAndBack() {
        for (int b = 1; b <= 20; b++) {
            ReorgLedger x = made(chain(20));
            x.ban(b, true);
            due("banned " + b + ", tip", x.tip(), b - 1);
            x.ban(b, true);
            due("banned twice", x.tip(), b - 1);
            x.ban(b, false);
            due("taken back once for both", x.tip(), 20);
            x.ban(b, false);
            due("taken back twice", x.tip(), 20);
            x.ban(b, true);
            due("two takings back don't outweigh a ban", x.tip(), b - 1);
        }
    }

    private static void banOfNoBlock() {
        for (int block : new int[] {MIN, -32, -1, SOME_BLOCKS, 7, 20, 21, 32, 34, 64, MAX}) {
            dueRefused("ban " + block, SOME, x -> x.ban(block, true), ReorgLedger.NO_BLOCK);
            dueRefused("allow " + block, SOME, x -> x.ban(block, false), ReorgLedger.NO_BLOCK);
        }
        dueRefused("ban 1", NOTHING, x -> x.ban(1, true), ReorgLedger.NO_BLOCK);
        dueRefused("ban 21", manyBlocks(21), x -> x.ban(21, true), ReorgLedger.NO_BLOCK);
        due("ban 20", manyBlocks(21).made().ban(20, true), 0);
    }

    private static void banOfBlockZero() {
        for (boolean on : new boolean[] {true, false}) {
            dueRefused("alone, " + on, NOTHING, x -> x.ban(0, on), ReorgLedger.NO_BLOCK);
            dueRefused("with some, " + on, SOME, x -> x.ban(0, on), ReorgLedger.NO_BLOCK);
            dueRefused("with all, " + on, manyBlocks(21), x -> x.ban(0, on), ReorgLedger.NO_BLOCK);
        }
        due("block 1 is not block 0", SOME.made().ban(1, true), 0);
    }

    private static void banAnswers() {
        ReorgLedger x = made(chain(20));
        for (int b = 1; b <= 20; b++) {
            due("allowed, never banned", x.ban(b, false), 0);
            due("banned the first time", x.ban(b, true), 0);
            due("banned again", x.ban(b, true), 1);
            due("allowed", x.ban(b, false), 1);
            due("allowed again", x.ban(b, false), 0);
            due("banned anew", x.ban(b, true), 0);
        }
        ReorgLedger z = SOME.made();
        due("not valid is not banned", z.ban(5, true), 0);
        z.ban(1, true);
        due("above a banned one is not banned", z.ban(2, false), 0);
    }

    // ---- Promises 5 to 9

    private static void tipAtTheEdges() {
        for (int last = 0; last <= 20; last++) {
            due("of a chain to " + last, made(chain(last)).tip(), last);
        }
        due("of some", SOME.made().tip(), 2);
        due("when no other is valid", tipAtZero().tip(), 0);
    }

    private static void validOfNoBlock() {
        for (int block : new int[] {MIN, -32, -1, SOME_BLOCKS, 20, 21, 32, 34, 64, MAX}) {
            dueRefused("block " + block, SOME, x -> x.valid(block) ? 1 : 0, 0);
        }
        for (int block : new int[] {MIN, -1, 21, 32, MAX}) {
            due("of 21, block " + block, made(chain(20)).valid(block), false);
        }
        due("block 1 of a new object", new ReorgLedger().valid(1), false);
    }

    private static void validAtTheEdges() {
        boolean[] some = {true, true, true, true, false, false};
        ReorgLedger x = SOME.made();
        for (int b = 0; b < SOME_BLOCKS; b++) {
            due("block " + b, x.valid(b), some[b]);
        }
        due("block 0 of a new object", new ReorgLedger().valid(0), true);
        due("block 20", made(chain(20)).valid(20), true);
    }

    private static void totalOfNoBlock() {
        for (int block : new int[] {MIN, -32, -1, SOME_BLOCKS, 20, 21, 32, 34, 64, MAX}) {
            dueRefused("block " + block, SOME, x -> x.total(block), ReorgLedger.NO_BLOCK);
        }
        for (int block : new int[] {MIN, -1, 21, 32, MAX}) {
            due("of 21, block " + block, made(chain(20)).total(block), ReorgLedger.NO_BLOCK);
        }
        due("block 1 of a new object", new ReorgLedger().total(1), ReorgLedger.NO_BLOCK);
    }

    private static void totalAtTheEdges() {
        int[] some = {0, 2, 5, 5, 11, 20};
        ReorgLedger x = SOME.made();
        for (int b = 0; b < SOME_BLOCKS; b++) {
            due("block " + b + ", valid or not", x.total(b), some[b]);
        }
        due("block 20", made(chain(20)).total(20), 20);
    }

    private static void balanceOfNoOwner() {
        for (int owner : new int[] {MIN, -8, -1, 8, 9, 16, 32, 64, MAX}) {
            dueRefused("owner " + owner, SOME, x -> x.balance(owner), ReorgLedger.BAD_OWNER);
            due("new, owner " + owner, new ReorgLedger().balance(owner), ReorgLedger.BAD_OWNER);
        }
    }

    private static void balanceAtTheEdges() {
        dueBalances("some", SOME.made(), 0, 0, 20, 20, 110, 0, 0, 0);
        dueBalances("block 0 alone", tipAtZero(), 50, 0, 0, 0, 0, 0, 0, 0);
        ReorgLedger x = new ReorgLedger();
        for (int b = 0; b < 20; b++) {
            x.block(b, 7, PLAIN);
        }
        dueBalances("twenty coins of owner 7", x, 50, 0, 0, 0, 0, 0, 0, 1000);
        x.transaction(32, -1, 20, 7);
        due("a transaction in no block brings nothing", x.balance(7), 1000);
        x.block(0, 6, content(0, NONE, 1));
        due("nor a block that was refused", x.balance(6), 0);
    }

    private static void unspentOfNoCoin() {
        for (int coin : new int[] {MIN, -64, -32, -1, 64, 66, 96, 97, 128, 160, MAX}) {
            dueRefused("coin " + coin, SOME, x -> x.unspent(coin) ? 1 : 0, 0);
            due("new, coin " + coin, new ReorgLedger().unspent(coin), false);
        }
    }

    private static void unspentAtTheEdges() {
        dueCoins("some", SOME.made(), 0, 2, 3, 34);
        dueCoins("block 0 alone", tipAtZero(), 32);
        dueCoins("block 4's", allowed4(), 0, 1, 4, 36);
        due("coin 52", made(chain(20)).unspent(52), true);
        due("coin 53", made(chain(20)).unspent(53), false);
    }

    private static ReorgLedger allowed4() {
        ReorgLedger x = SOME.made();
        x.ban(4, false);
        return x;
    }

    // ---- Promises 10 to 12

    private static void confirmationsCount() {
        for (int at = 1; at <= 20; at++) {
            ReorgLedger x = new ReorgLedger();
            x.transaction(32, -1, 20, 0);
            for (int b = 1; b <= 20; b++) {
                x.block(b - 1, 0, content(b == at ? 0 : NONE, NONE, 1));
                due("in block " + at + ", tip " + b, x.confirmations(0), b < at ? 0 : b - at + 1);
            }
            x.ban(20, true);
            due("in block " + at + ", tip 19", x.confirmations(0), 20 - at);
        }
        ReorgLedger z = made(chain(1));
        z.transaction(32, -1, 50, 0);
        z.transaction(0, -1, 50, 0);
        z.block(1, 0, content(0, 1, 1));
        z.block(0, 0, PLAIN);
        z.block(2, 0, PLAIN);
        due("as the first, a block beside not counted", z.confirmations(0), 2);
        due("as the second", z.confirmations(1), 2);
    }

    private static void confirmationsZero() {
        ReorgLedger x = SOME.made();
        due("in a banned block", x.confirmations(2), 0);
        due("in a block that doesn't fit", x.confirmations(3), 0);
        due("in no block", x.confirmations(4), 0);
        x.ban(1, true);
        due("in none of the tip's branch any more", x.confirmations(0), 0);
        due("the last of sixteen", manyTransactions(16).made().confirmations(15), 0);
    }

    private static void confirmationsOfNoTransaction() {
        for (int t : new int[] {MIN, -32, -1, SOME_TRANSACTIONS, 15, 16, 32, 33, 64, MAX}) {
            dueRefused("transaction " + t, SOME, x -> x.confirmations(t), ReorgLedger.NO_TX);
        }
        for (int t : new int[] {MIN, -1, 16, 32, MAX}) {
            due("of 16, " + t, manyTransactions(16).made().confirmations(t), ReorgLedger.NO_TX);
        }
    }

    private static void sharedAtTheEdges() {
        ReorgLedger x = made(chain(20));
        for (int a = 0; a <= 20; a++) {
            due("with itself", x.shared(a, a), a + 1);
            due("with block 0", x.shared(a, 0), 1);
            due("with its descendant", x.shared(a, 20), a + 1);
            due("with its ancestor", x.shared(20, a), a + 1);
        }
        ReorgLedger z = SOME.made();
        due("fork above block 1, one banned", z.shared(2, 4), 2);
        due("fork above block 0", z.shared(2, 3), 1);
        due("one that doesn't fit", z.shared(5, 5), 4);
        due("its fork", z.shared(4, 5), 2);
    }

    private static void sharedOfNoBlock() {
        for (int block : new int[] {MIN, -32, -1, SOME_BLOCKS, 20, 21, 32, 34, 64, MAX}) {
            dueRefused("a " + block, SOME, x -> x.shared(block, 2), ReorgLedger.NO_BLOCK);
            dueRefused("b " + block, SOME, x -> x.shared(2, block), ReorgLedger.NO_BLOCK);
            dueRefused("both " + block, SOME, x -> x.shared(block, block), ReorgLedger.NO_BLOCK);
        }
        due("of 21, a", made(chain(20)).shared(21, 20), ReorgLedger.NO_BLOCK);
        due("of 21, b", made(chain(20)).shared(20, 21), ReorgLedger.NO_BLOCK);
    }

    private static void fitsAtTheEdges() {
        ReorgLedger x = SOME.made();
        boolean[] behind2 = {false, false, false, false, true};
        boolean[] behind1 = {false, true, true, false, false};
        boolean[] behind0 = {true, false, false, false, false};
        dueAllFit("behind block 2", x, behind2);
        x.ban(3, true);
        x.ban(2, true);
        dueAllFit("behind block 1", x, behind1);
        x.ban(1, true);
        dueAllFit("behind block 0", x, behind0);
        ReorgLedger z = new ReorgLedger();
        z.transaction(33, -1, 50, 0);
        due("the coin of a block to come", z.fits(0), false);
        due("the sixteenth", made(equalTransactions()).fits(15), true);
    }

    private static void fitsOfNoTransaction() {
        for (int t : new int[] {MIN, -32, -1, SOME_TRANSACTIONS, 15, 16, 32, 33, 64, MAX}) {
            dueRefused("transaction " + t, SOME, x -> x.fits(t) ? 1 : 0, 0);
        }
        for (int t : new int[] {MIN, -1, 16, 32, MAX}) {
            due("of 16, " + t, made(equalTransactions()).fits(t), false);
        }
    }

    // ---- Promise 13

    private static void transactionOrder() {
        for (int count : new int[] {SOME_TRANSACTIONS, 16}) {
            for (int first : new int[] {32, -1, 64}) {
                for (int second : new int[] {-1, -2, 64}) {
                    for (int amount : new int[] {1, 0, 1001}) {
                        dueTransactionOrder(count, first, second, amount);
                    }
                }
            }
        }
    }

    private static void dueTransactionOrder(int count, int first, int second, int amount) {
        String what = "transaction(" + first + ", " + second + ", " + amount + ") with " + count;
        Call call = x -> x.transaction(first, second, amount, 0);
        if (first != 32 || second != -1) {
            dueRefused(what, manyTransactions(count), call, ReorgLedger.BAD_COIN);
        } else if (amount != 1) {
            dueRefused(what, manyTransactions(count), call, ReorgLedger.BAD_AMOUNT);
        } else if (count == 16) {
            dueRefused(what, manyTransactions(count), call, ReorgLedger.FULL);
        } else {
            due(what, call.on(manyTransactions(count).made()), count);
        }
    }

    private static void blockOrder() {
        int[] fields = {NONE, 0, SOME_TRANSACTIONS, 30};
        for (int count : new int[] {SOME_BLOCKS, 21}) {
            for (int parent : new int[] {2, -1, count}) {
                for (int miner : new int[] {0, -1, 8}) {
                    for (int first : fields) {
                        for (int second : fields) {
                            dueBlockOrder(count, parent, miner, content(first, second, 0));
                            dueBlockOrder(count, parent, miner, content(first, second, 1));
                        }
                    }
                }
            }
        }
    }

    private static void dueBlockOrder(int count, int parent, int miner, int content) {
        String what = "block(" + parent + ", " + miner + ", " + content + ") with " + count;
        Call call = x -> x.block(parent, miner, content);
        Setup setup = manyBlocks(count);
        if (parent != 2) {
            dueRefused(what, setup, call, ReorgLedger.NO_BLOCK);
        } else if (miner != 0) {
            dueRefused(what, setup, call, ReorgLedger.BAD_OWNER);
        } else if ((content & 31) > SOME_TRANSACTIONS || (content >> 5 & 31) > SOME_TRANSACTIONS) {
            dueRefused(what, setup, call, ReorgLedger.NO_TX);
        } else if (content >> 10 == 0) {
            dueRefused(what, setup, call, ReorgLedger.BAD_WORK);
        } else if (count == 21) {
            dueRefused(what, setup, call, ReorgLedger.FULL);
        } else {
            due(what, call.on(setup.made()), count);
        }
    }

    // ---- Ledgers to begin with

    private static ReorgLedger made(Use setup) {
        ReorgLedger x = new ReorgLedger();
        setup.on(x);
        return x;
    }

    // A fork, a tie of totals (2 and 3), a heavier banned block (4) and one that doesn't fit (5).
    private static void addSome(ReorgLedger x) {
        x.transaction(32, -1, 20, 1 << 3 | 2);
        x.transaction(1, 33, 60, 3 << 3 | 4);
        x.transaction(33, -1, 50, 5 << 3 | 6);
        x.transaction(34, 34, 5, 0);
        x.transaction(34, -1, 35, 6 << 3 | 1);
        x.block(0, 3, content(0, NONE, 2));
        x.block(1, 4, content(1, NONE, 3));
        x.block(0, 5, content(NONE, NONE, 5));
        x.block(1, 6, content(2, NONE, 9));
        x.ban(4, true);
        x.block(2, 7, content(3, NONE, 15));
    }

    // A new object, or "some" with more transactions, and with more blocks on its four branches:
    // the tip's, the equal one, the banned one, the one that doesn't fit.
    private record Setup(int transactions, int blocks) {
        ReorgLedger made() {
            ReorgLedger x = new ReorgLedger();
            if (blocks > 1) {
                addSome(x);
            }
            for (int t = SOME_TRANSACTIONS; t < transactions; t++) {
                x.transaction(34, -1, t, t);
            }
            for (int b = SOME_BLOCKS; b < blocks; b++) {
                x.block(parent(b), b % 8, PLAIN);
            }
            return x;
        }

        static int parent(int block) {
            return block < SOME_BLOCKS ? SOME_PARENTS[block] : block - 4;
        }

        static boolean isOnBranch(int block, int end) {
            int b = end;
            while (b > block) {
                b = parent(b);
            }
            return b == block;
        }
    }

    private static Setup manyTransactions(int count) {
        return new Setup(count, SOME_BLOCKS);
    }

    private static Setup manyBlocks(int count) {
        return new Setup(SOME_TRANSACTIONS, count);
    }

    private static Use equalTransactions() {
        return x -> {
            for (int t = 0; t < 16; t++) {
                x.transaction(32, -1, 20, t);
            }
        };
    }

    private static Use lastOf(int number, int first, int second, int amount, int owners) {
        return x -> {
            for (int t = 0; t < number; t++) {
                x.transaction(63, -1, 1, 0);
            }
            x.transaction(first, second, amount, owners);
        };
    }

    // Blocks 0 to last, each above the one before it, block b mined by owner b % 8.
    private static Use chain(int last) {
        return x -> {
            for (int b = 1; b <= last; b++) {
                x.block(b - 1, b % 8, PLAIN);
            }
        };
    }

    private static int minedBy(int owner, int last) {
        return (last - owner + 8) / 8;
    }

    private static int content(int first, int second, int work) {
        return first + 1 | second + 1 << 5 | work << 10;
    }

    // ---- That nothing changes: the same calls with and without one more must go on alike

    private static void dueRefused(String what, Setup setup, Call call, int answer) {
        due(what, call.on(setup.made()), answer);
        dueNoChange(what, setup, call);
    }

    private static void dueNoChange(String what, Setup setup, Call call) {
        for (Way way : waysOn(setup)) {
            for (Way question : QUESTIONS) {
                dueAlike(what, setup, call, way, question);
            }
        }
        dueAlike(what, setup, call, x -> List.of(), x -> askShared(x, setup.blocks()));
    }

    // Each question is put to objects of its own, so that none hides what another would show.
    private static void dueAlike(String what, Setup setup, Call call, Way way, Way question) {
        ReorgLedger plain = setup.made();
        ReorgLedger called = setup.made();
        call.on(called);
        if (!way.on(called).equals(way.on(plain)) || !question.on(called).equals(question.on(plain))) {
            wrong++;
            System.out.println(sentence + " | " + what + ": something changes");
        }
    }

    private static List<Way> questions() {
        List<Way> questions = new ArrayList<>();
        questions.add(x -> List.of(x.tip()));
        questions.add(x -> answers(21, b -> x.valid(b) ? 1 : 0));
        questions.add(x -> answers(21, x::total));
        questions.add(x -> answers(64, coin -> x.unspent(coin) ? 1 : 0));
        questions.add(x -> answers(16, x::confirmations));
        questions.add(x -> answers(16, t -> x.fits(t) ? 1 : 0));
        for (int n = 0; n < 8; n++) {
            int owner = n;
            questions.add(x -> List.of(x.balance(owner)));
        }
        return questions;
    }

    private static List<Integer> askShared(ReorgLedger x, int blocks) {
        return answers(blocks * blocks, pair -> x.shared(pair / blocks, pair % blocks));
    }

    // Calls that bring to light what an object holds. None of them is refused: what a refused
    // call changes would change on both sides.
    private static List<Way> waysOn(Setup setup) {
        List<Way> ways = new ArrayList<>();
        ways.add(x -> List.of());
        for (int b = 0; b < setup.blocks(); b++) {
            int block = b;
            ways.add(x -> banAll(x, setup, other -> other == block));
            ways.add(x -> banAll(x, setup, other -> !Setup.isOnBranch(other, block)));
        }
        if (setup.transactions() < 16) {
            ways.add(x -> answers(16 - setup.transactions(), t -> x.transaction(34, -1, 10 + t, 2 * t)));
        }
        if (setup.blocks() < 21) {
            ways.add(x -> answers(21 - setup.blocks(), b -> x.block(b / 2, b % 8, PLAIN)));
            addTrials(setup, ways);
        }
        return ways;
    }

    // Above block 0, 1 or 2 any transaction fits that can fit at all.
    private static void addTrials(Setup setup, List<Way> ways) {
        for (int t = 0; t < setup.transactions(); t++) {
            for (int parent = 0; parent <= 2; parent++) {
                int above = parent;
                int content = content(t, NONE, 15);
                ways.add(x -> List.of(x.block(above, 7, content)));
            }
        }
    }

    private static List<Integer> banAll(ReorgLedger x, Setup setup, IntPredicate which) {
        return answers(setup.blocks() - 1, b -> x.ban(b + 1, which.test(b + 1)));
    }

    private static List<Integer> answers(int count, IntUnaryOperator call) {
        List<Integer> answers = new ArrayList<>();
        for (int number = 0; number < count; number++) {
            answers.add(call.applyAsInt(number));
        }
        return answers;
    }

    private static void callAllQueries(ReorgLedger x, int number) {
        x.tip();
        x.valid(number);
        x.total(number);
        x.balance(number);
        x.unspent(number);
        x.confirmations(number);
        x.shared(number, 2);
        x.shared(2, number);
        x.fits(number);
    }

    // ---- What is due

    private static void test(String words, Runnable test) {
        sentence = words;
        sentences++;
        try {
            test.run();
        } catch (RuntimeException thrown) {
            wrong++;
            System.out.println(sentence + " | threw " + thrown);
        }
    }

    private static void dueBlock(String what, ReorgLedger x, int parent, int content, boolean valid) {
        int block = x.block(parent, 0, content);
        due(what + ": added", block > 0, true);
        due(what + ": valid", x.valid(block), valid);
    }

    private static void dueFits(String what, ReorgLedger x, int first, int second, int amount, boolean fits) {
        int transaction = x.transaction(first, second, amount, 0);
        due(what + ": added", transaction >= 0, true);
        due(what + ": fits", x.fits(transaction), fits);
    }

    private static void dueAllFit(String what, ReorgLedger x, boolean[] fits) {
        for (int t = 0; t < fits.length; t++) {
            due(what + ", transaction " + t, x.fits(t), fits[t]);
        }
    }

    private static void dueBalances(String what, ReorgLedger x, int... balances) {
        for (int owner = 0; owner < 8; owner++) {
            due(what + ", owner " + owner, x.balance(owner), balances[owner]);
        }
    }

    private static void dueCoins(String what, ReorgLedger x, int... unspent) {
        List<Integer> seen = new ArrayList<>();
        for (int coin = 0; coin < 64; coin++) {
            if (x.unspent(coin)) {
                seen.add(coin);
            }
        }
        List<Integer> want = new ArrayList<>();
        for (int coin : unspent) {
            want.add(coin);
        }
        if (!seen.equals(want)) {
            wrong++;
            System.out.println(sentence + " | " + what + ": coins " + seen + " are unspent, due are " + want);
        }
    }

    private static void due(String what, boolean got, boolean want) {
        due(what, got ? 1 : 0, want ? 1 : 0);
    }

    private static void due(String what, int got, int want) {
        if (got != want) {
            wrong++;
            System.out.println(sentence + " | " + what + ": answered " + got + ", due is " + want);
        }
    }
}
