// One method for each promise of the document, with ordinary inputs, edges and wrong inputs.
public final class PromiseTests {
    private static final int NONE = -1;
    private static final int MIN = Integer.MIN_VALUE;
    private static final int MAX = Integer.MAX_VALUE;

    private static int wrong = 0;
    private static String promise = "";

    public static void main(String[] args) {
        promise1NewObject();
        promise2Transaction();
        promise2Owners();
        promise3Block();
        promise3Content();
        promise4Ban();
        promise5TipByTotal();
        promise5TipAfterBans();
        promise6ValidByBans();
        promise6ValidByTransactions();
        promise6ValidByRepeats();
        promise7Total();
        promise8Balance();
        promise9Unspent();
        promise10Confirmations();
        promise11Shared();
        promise12Fits();
        promise12FitsAmounts();
        promise13TransactionOrder();
        promise13BlockOrder();
        queriesChangeNothing();
        System.out.println(wrong == 0 ? "all promises hold" : wrong + " answers are not as due");
        if (wrong != 0) {
            System.exit(1);
        }
    }

    private static void promise1NewObject() {
        promise = "1";
        ReorgLedger x = new ReorgLedger();
        due("tip", x.tip(), 0);
        due("valid(0)", x.valid(0), true);
        due("valid(1)", x.valid(1), false);
        due("total(0)", x.total(0), 0);
        due("total(1)", x.total(1), ReorgLedger.NO_BLOCK);
        due("shared(0, 0)", x.shared(0, 0), 1);
        due("confirmations(0)", x.confirmations(0), ReorgLedger.NO_TX);
        due("fits(0)", x.fits(0), false);
        for (int owner = 0; owner < 8; owner++) {
            due("balance " + owner, x.balance(owner), owner == 0 ? 50 : 0);
        }
        for (int coin = 0; coin < 64; coin++) {
            due("unspent " + coin, x.unspent(coin), coin == 32);
        }
        due("first block", x.block(0, 1, content(NONE, NONE, 1)), 1);
        due("another object has block 0 alone", new ReorgLedger().total(1), ReorgLedger.NO_BLOCK);
    }

    private static void promise2Transaction() {
        promise = "2";
        ReorgLedger x = new ReorgLedger();
        for (int coin : new int[] {MIN, -2, -1, 64, MAX}) {
            due("x " + coin, x.transaction(coin, -1, 1, 0), ReorgLedger.BAD_COIN);
        }
        for (int coin : new int[] {MIN, -2, 64, MAX}) {
            due("y " + coin, x.transaction(0, coin, 1, 0), ReorgLedger.BAD_COIN);
        }
        for (int amount : new int[] {MIN, -1, 0, 1001, MAX}) {
            due("amount " + amount, x.transaction(0, -1, amount, 0), ReorgLedger.BAD_AMOUNT);
        }
        due("nothing was added", x.confirmations(0), ReorgLedger.NO_TX);
        due("smallest", x.transaction(0, -1, 1, 0), 0);
        due("greatest", x.transaction(63, 63, 1000, 0), 1);
        due("y is 0", x.transaction(32, 0, 1, 0), 2);
        for (int t = 3; t < 16; t++) {
            due("number", x.transaction(32, -1, 50, 0), t);
        }
        due("seventeenth", x.transaction(32, -1, 50, 0), ReorgLedger.FULL);
        due("no seventeenth", x.confirmations(16), ReorgLedger.NO_TX);
        due("sixteenth", x.confirmations(15), 0);
        due("tip is untouched", x.tip(), 0);
        due("coins are untouched", x.balance(0), 50);
        due("the sixteenth can be used", x.block(0, 1, content(15, NONE, 1)), 1);
        due("the sixteenth fits", x.valid(1), true);
        due("coin 30", x.unspent(30), true);
        due("coin 31", x.unspent(31), false);
    }

    private static void promise2Owners() {
        promise = "2";
        for (int owners : new int[] {0, 7, 8, 56, 63, 26, 64, -1, -64, MIN, MAX, 0x7fffffd1}) {
            ReorgLedger x = new ReorgLedger();
            x.transaction(32, -1, 20, owners);
            x.block(0, 0, content(0, NONE, 1));
            int receiver = owners & 7;
            int sender = owners >> 3 & 7;
            for (int owner = 0; owner < 8; owner++) {
                int due = (owner == 0 ? 50 : 0) + (owner == receiver ? 20 : 0) + (owner == sender ? 30 : 0);
                due("owners " + owners + ", balance " + owner, x.balance(owner), due);
            }
        }
    }

    private static void promise3Block() {
        promise = "3";
        ReorgLedger x = new ReorgLedger();
        int plain = content(NONE, NONE, 1);
        for (int parent : new int[] {MIN, -1, 1, 20, 21, 32, MAX}) {
            due("parent " + parent, x.block(parent, 0, plain), ReorgLedger.NO_BLOCK);
        }
        for (int miner : new int[] {MIN, -1, 8, MAX}) {
            due("miner " + miner, x.block(0, miner, plain), ReorgLedger.BAD_OWNER);
        }
        due("work 0", x.block(0, 0, 0), ReorgLedger.BAD_WORK);
        due("work 0 below other bits", x.block(0, 0, 1 << 14), ReorgLedger.BAD_WORK);
        due("nothing was added", x.valid(1), false);
        due("tip", x.tip(), 0);
        due("miner 7", x.block(0, 7, plain), 1);
        due("miner 7 has the coin", x.balance(7), 50);
        for (int b = 2; b <= 20; b++) {
            due("number", x.block(b - 1, b % 8, plain), b);
        }
        due("twenty-second", x.block(0, 0, plain), ReorgLedger.FULL);
        due("no block 21", x.total(21), ReorgLedger.NO_BLOCK);
        due("tip", x.tip(), 20);
        due("coin 52", x.unspent(52), true);
        due("coin 53", x.unspent(53), false);
        due("owner 4 has blocks 4, 12, 20", x.balance(4), 150);
    }

    private static void promise3Content() {
        promise = "3";
        ReorgLedger x = new ReorgLedger();
        due("no transaction yet", x.block(0, 0, content(0, NONE, 1)), ReorgLedger.NO_TX);
        x.transaction(32, -1, 20, 1);
        x.transaction(0, -1, 5, 10);
        due("first too great", x.block(0, 0, content(2, NONE, 1)), ReorgLedger.NO_TX);
        due("second too great", x.block(0, 0, content(NONE, 2, 1)), ReorgLedger.NO_TX);
        due("first is 30", x.block(0, 0, content(30, 0, 1)), ReorgLedger.NO_TX);
        due("second is 30", x.block(0, 0, content(0, 30, 1)), ReorgLedger.NO_TX);
        due("other bits", x.block(0, 3, content(0, 1, 15) | -1 << 14), 1);
        due("work 15", x.total(1), 15);
        due("both in order", x.valid(1), true);
        due("other order", x.block(0, 3, content(1, 0, 15)), 2);
        due("other order is not valid", x.valid(2), false);
        due("second alone", x.block(0, 3, content(NONE, 0, 8)), 3);
        due("second alone is valid", x.valid(3), true);
        due("work 8", x.total(3), 8);
        due("above an invalid one", x.block(2, 3, content(NONE, NONE, 4)), 4);
        due("its total", x.total(4), 19);
        due("receiver 2", x.balance(2), 5);
        due("sender 1", x.balance(1), 15);
        for (int t = 2; t < 16; t++) {
            x.transaction(32, -1, 20, 1);
        }
        due("first is 16", x.block(0, 0, content(16, NONE, 1)), ReorgLedger.NO_TX);
        due("second is 16", x.block(0, 0, content(NONE, 16, 1)), ReorgLedger.NO_TX);
        due("first is 15", x.block(0, 0, content(15, NONE, 1)), 5);
    }

    private static void promise4Ban() {
        promise = "4";
        ReorgLedger x = new ReorgLedger();
        x.block(0, 1, content(NONE, NONE, 1));
        for (int block : new int[] {MIN, -1, 0, 2, 21, 64, MAX}) {
            due("ban " + block, x.ban(block, true), ReorgLedger.NO_BLOCK);
            due("allow " + block, x.ban(block, false), ReorgLedger.NO_BLOCK);
        }
        due("block 0", x.valid(0), true);
        due("block 1", x.valid(1), true);
        due("allow what was allowed", x.ban(1, false), 0);
        due("ban", x.ban(1, true), 0);
        due("banned", x.valid(1), false);
        due("ban again", x.ban(1, true), 1);
        due("still banned", x.valid(1), false);
        due("allow", x.ban(1, false), 1);
        due("allowed", x.valid(1), true);
        due("allow again", x.ban(1, false), 0);
        due("ban once more", x.ban(1, true), 0);
        due("a ban refused for block 2 doesn't wait for it", x.block(0, 1, content(NONE, NONE, 1)), 2);
        due("block 2", x.valid(2), true);
    }

    private static void promise5TipByTotal() {
        promise = "5";
        ReorgLedger x = new ReorgLedger();
        x.transaction(32, -1, 51, 0);
        x.block(0, 1, content(NONE, NONE, 3));
        due("heavier", x.tip(), 1);
        x.block(0, 2, content(NONE, NONE, 3));
        due("equal doesn't displace", x.tip(), 1);
        x.block(0, 2, content(NONE, NONE, 2));
        due("lighter doesn't displace", x.tip(), 1);
        x.block(3, 2, content(0, NONE, 15));
        due("invalid doesn't displace", x.tip(), 1);
        x.block(4, 2, content(NONE, NONE, 15));
        due("above an invalid one neither", x.tip(), 1);
        x.block(3, 2, content(NONE, NONE, 1));
        due("equal and longer doesn't displace", x.tip(), 1);
        x.block(6, 2, content(NONE, NONE, 1));
        due("heavier on another branch", x.tip(), 7);
        x.block(2, 2, content(NONE, NONE, 15));
        due("heavier in one block", x.tip(), 8);
    }

    private static void promise5TipAfterBans() {
        promise = "5";
        ReorgLedger x = new ReorgLedger();
        x.block(0, 1, content(NONE, NONE, 2));
        x.block(0, 2, content(NONE, NONE, 5));
        x.block(0, 3, content(NONE, NONE, 5));
        x.block(1, 4, content(NONE, NONE, 3));
        due("first of equal ones", x.tip(), 2);
        x.ban(2, true);
        due("smallest of equal ones", x.tip(), 3);
        x.ban(2, false);
        due("an equal one allowed doesn't displace", x.tip(), 3);
        x.ban(3, true);
        due("smallest again", x.tip(), 2);
        x.ban(2, true);
        due("third one", x.tip(), 4);
        x.ban(1, true);
        due("a banned ancestor takes the tip along", x.tip(), 0);
        x.ban(1, false);
        due("back again", x.tip(), 4);
        x.ban(3, false);
        due("stays", x.tip(), 4);
        x.ban(4, false);
        due("allowing the tip changes nothing", x.tip(), 4);
        x.block(2, 0, content(NONE, NONE, 1));
        due("above a banned one", x.tip(), 4);
        x.ban(2, false);
        due("allowing an ancestor of a heavier one", x.tip(), 5);
        x.ban(5, true);
        due("the smallest, which needn't be the former tip", x.tip(), 2);
    }

    private static void promise6ValidByBans() {
        promise = "6";
        ReorgLedger x = new ReorgLedger();
        for (int b = 0; b < 4; b++) {
            x.block(b, 1, content(NONE, NONE, 1));
        }
        x.block(1, 1, content(NONE, NONE, 1));
        for (int block : new int[] {MIN, -1, 6, 21, 64, MAX}) {
            due("valid " + block, x.valid(block), false);
        }
        x.ban(2, true);
        boolean[] due = {true, true, false, false, false, true};
        for (int b = 0; b < 6; b++) {
            due("2 banned, " + b, x.valid(b), due[b]);
        }
        x.ban(3, true);
        x.ban(2, false);
        due("2 allowed", x.valid(2), true);
        due("3 banned itself", x.valid(3), false);
        due("4 above it", x.valid(4), false);
        x.ban(3, false);
        due("4 again", x.valid(4), true);
    }

    private static void promise6ValidByTransactions() {
        promise = "6";
        ReorgLedger x = new ReorgLedger();
        x.transaction(33, -1, 50, 0);
        x.transaction(32, 32, 50, 0);
        x.transaction(32, 33, 100, 0);
        x.transaction(32, 33, 101, 0);
        x.transaction(0, -1, 1, 0);
        x.transaction(10, -1, 1, 0);
        x.transaction(13, -1, 1, 0);
        dueBlock("a block's own coin", x, 0, content(0, NONE, 1), true);
        dueBlock("a coin of another branch", x, 0, content(0, NONE, 1), false);
        dueBlock("two of the same", x, 1, content(1, NONE, 1), false);
        dueBlock("one of two is spent", x, 1, content(2, NONE, 1), false);
        dueBlock("a coin of the parent's", x, 1, content(4, NONE, 1), true);
        dueBlock("its own paid coin", x, 1, content(5, NONE, 1), false);
        dueBlock("its own rest", x, 1, content(6, NONE, 1), false);
        dueBlock("second doesn't fit", x, 1, content(4, 1, 1), false);
        dueBlock("above one whose second doesn't fit", x, 8, content(NONE, NONE, 1), false);

        ReorgLedger z = new ReorgLedger();
        z.transaction(32, 33, 100, 0);
        z.transaction(32, 33, 101, 0);
        z.transaction(1, -1, 1, 0);
        dueBlock("all of two coins", z, 0, content(0, NONE, 1), true);
        dueBlock("without a rest there is no coin 1", z, 1, content(2, NONE, 1), false);
        ReorgLedger w = new ReorgLedger();
        w.transaction(32, 33, 101, 0);
        dueBlock("more than two coins have", w, 0, content(0, NONE, 1), false);
    }

    private static void promise6ValidByRepeats() {
        promise = "6";
        ReorgLedger x = new ReorgLedger();
        x.transaction(32, -1, 20, 9);
        x.transaction(0, 1, 50, 9);
        x.transaction(0, -1, 20, 9);
        dueBlock("twice in a block", x, 0, content(0, 0, 1), false);
        dueBlock("once", x, 0, content(0, NONE, 1), true);
        dueBlock("again above", x, 2, content(0, NONE, 1), false);
        dueBlock("on another branch", x, 0, content(0, NONE, 1), true);
        dueBlock("its coins joined", x, 2, content(1, NONE, 1), true);
        dueBlock("spent twice", x, 5, content(2, NONE, 1), false);
        dueBlock("spent twice in a block", x, 2, content(2, 1, 1), false);
        dueBlock("made and spent in a block", x, 0, content(0, 1, 1), true);
        dueBlock("spent before it is made", x, 0, content(1, 0, 1), false);
    }

    private static void promise7Total() {
        promise = "7";
        ReorgLedger x = new ReorgLedger();
        x.transaction(40, -1, 1, 0);
        x.block(0, 0, content(NONE, NONE, 15));
        x.block(1, 0, content(NONE, NONE, 7));
        x.block(1, 0, content(0, NONE, 2));
        x.block(3, 0, content(NONE, NONE, 1));
        x.ban(1, true);
        int[] due = {0, 15, 22, 17, 18};
        for (int b = 0; b < due.length; b++) {
            due("total " + b, x.total(b), due[b]);
        }
        for (int block : new int[] {MIN, -1, 5, 21, 64, MAX}) {
            due("total " + block, x.total(block), ReorgLedger.NO_BLOCK);
        }
        ReorgLedger z = new ReorgLedger();
        for (int b = 0; b < 20; b++) {
            z.block(b, 0, content(NONE, NONE, 15));
        }
        due("greatest total", z.total(20), 300);
    }

    private static void promise8Balance() {
        promise = "8";
        ReorgLedger x = new ReorgLedger();
        for (int owner : new int[] {MIN, -1, 8, 32, MAX}) {
            due("balance " + owner, x.balance(owner), ReorgLedger.BAD_OWNER);
        }
        x.transaction(32, -1, 20, 3 << 3 | 5);
        x.transaction(0, 33, 65, 6 << 3 | 3);
        x.block(0, 7, content(0, NONE, 1));
        due("miner", x.balance(7), 50);
        due("receiver", x.balance(5), 20);
        due("sender", x.balance(3), 30);
        due("who owned the spent coin", x.balance(0), 0);
        x.block(1, 7, content(1, NONE, 1));
        due("new miner's coin", x.balance(7), 50);
        due("spent", x.balance(5), 0);
        due("rest kept and paid", x.balance(3), 95);
        due("rest of two coins", x.balance(6), 5);
        x.block(0, 2, content(NONE, NONE, 3));
        due("other branch, miner", x.balance(2), 50);
        due("other branch, 0", x.balance(0), 50);
        due("other branch, 3", x.balance(3), 0);
        due("other branch, 7", x.balance(7), 0);
        x.ban(3, true);
        due("back, 3", x.balance(3), 95);
        x.ban(2, true);
        due("one back, 3", x.balance(3), 30);
    }

    private static void promise9Unspent() {
        promise = "9";
        ReorgLedger x = new ReorgLedger();
        for (int coin : new int[] {MIN, -1, 64, 96, MAX}) {
            due("unspent " + coin, x.unspent(coin), false);
        }
        x.transaction(32, -1, 49, 0);
        x.transaction(0, -1, 49, 0);
        x.block(0, 1, content(0, 1, 1));
        boolean[] due = {false, true, true, false};
        for (int coin = 0; coin < due.length; coin++) {
            due("unspent " + coin, x.unspent(coin), due[coin]);
        }
        due("block 0's", x.unspent(32), false);
        due("block 1's", x.unspent(33), true);
        x.block(0, 1, content(NONE, NONE, 1));
        due("of a block beside the tip", x.unspent(34), false);
        x.ban(1, true);
        due("of the new tip", x.unspent(34), true);
        due("of the former tip", x.unspent(33), false);
        due("block 0's again", x.unspent(32), true);
        due("coin 2 has gone", x.unspent(2), false);
        due("coin 63", x.unspent(63), false);
    }

    private static void promise10Confirmations() {
        promise = "10";
        ReorgLedger x = new ReorgLedger();
        x.transaction(32, -1, 20, 0);
        x.transaction(1, -1, 20, 0);
        x.transaction(33, -1, 20, 0);
        for (int transaction : new int[] {MIN, -1, 3, 16, 32, 33, MAX}) {
            due("confirmations " + transaction, x.confirmations(transaction), ReorgLedger.NO_TX);
        }
        due("none has it", x.confirmations(0), 0);
        x.block(0, 1, content(NONE, 0, 1));
        due("the tip has it", x.confirmations(0), 1);
        x.block(1, 1, content(1, NONE, 1));
        x.block(2, 1, content(NONE, NONE, 1));
        due("three", x.confirmations(0), 3);
        due("two", x.confirmations(1), 2);
        due("none", x.confirmations(2), 0);
        x.block(1, 1, content(2, NONE, 1));
        due("a block beside the tip's branch has it", x.confirmations(2), 0);
        x.block(3, 1, content(0, NONE, 1));
        due("an invalid block has it again", x.confirmations(0), 3);
        x.block(4, 1, content(NONE, NONE, 5));
        due("other branch, below the fork", x.confirmations(0), 3);
        due("other branch, above the fork", x.confirmations(2), 2);
        due("the other branch's own", x.confirmations(1), 0);
        x.ban(1, true);
        due("none after a ban", x.confirmations(0), 0);
        due("still there", x.confirmations(2), 0);
    }

    private static void promise11Shared() {
        promise = "11";
        ReorgLedger x = new ReorgLedger();
        x.transaction(40, -1, 1, 0);
        x.block(0, 0, content(NONE, NONE, 1));
        x.block(1, 0, content(0, NONE, 1));
        x.block(2, 0, content(NONE, NONE, 1));
        x.block(2, 0, content(NONE, NONE, 1));
        x.block(0, 0, content(NONE, NONE, 1));
        x.ban(1, true);
        int[][] due = {{1, 1, 1, 1, 1, 1}, {1, 2, 2, 2, 2, 1}, {1, 2, 3, 3, 3, 1},
            {1, 2, 3, 4, 3, 1}, {1, 2, 3, 3, 4, 1}, {1, 1, 1, 1, 1, 2}};
        for (int a = 0; a < 6; a++) {
            for (int b = 0; b < 6; b++) {
                due("shared " + a + " " + b, x.shared(a, b), due[a][b]);
            }
        }
        for (int block : new int[] {MIN, -1, 6, 21, 32, MAX}) {
            due("shared 0 " + block, x.shared(0, block), ReorgLedger.NO_BLOCK);
            due("shared " + block + " 0", x.shared(block, 0), ReorgLedger.NO_BLOCK);
            due("shared twice " + block, x.shared(block, block), ReorgLedger.NO_BLOCK);
        }
        ReorgLedger z = new ReorgLedger();
        for (int b = 0; b < 20; b++) {
            z.block(b, 0, content(NONE, NONE, 1));
        }
        due("longest branch", z.shared(20, 20), 21);
    }

    private static void promise12Fits() {
        promise = "12";
        ReorgLedger x = new ReorgLedger();
        x.transaction(32, -1, 20, 0);
        x.transaction(0, 1, 50, 0);
        x.transaction(33, -1, 50, 0);
        x.transaction(34, 34, 20, 0);
        for (int transaction : new int[] {MIN, -1, 4, 16, 32, MAX}) {
            due("fits " + transaction, x.fits(transaction), false);
        }
        dueFits("at first", x, true, false, false, false);
        x.block(0, 0, content(0, NONE, 1));
        dueFits("block 1", x, false, true, true, false);
        x.block(1, 0, content(2, NONE, 1));
        dueFits("block 2", x, false, true, false, false);
        x.block(0, 0, content(NONE, NONE, 15));
        dueFits("block 3", x, true, false, false, false);
        x.ban(3, true);
        x.ban(2, true);
        dueFits("block 1 again", x, false, true, true, false);
    }

    private static void promise12FitsAmounts() {
        promise = "12";
        ReorgLedger x = new ReorgLedger();
        x.block(0, 0, content(NONE, NONE, 1));
        x.transaction(32, -1, 50, 0);
        x.transaction(32, -1, 51, 0);
        x.transaction(32, 33, 100, 0);
        x.transaction(32, 33, 101, 0);
        dueFits("amounts", x, true, false, true, false);
        x.transaction(33, 32, 1, 0);
        x.transaction(32, 34, 1, 0);
        x.transaction(34, 32, 1, 0);
        x.transaction(32, 63, 1, 0);
        x.transaction(32, 0, 1, 0);
        x.transaction(18, -1, 1, 0);
        due("other order", x.fits(4), true);
        due("second not made yet", x.fits(5), false);
        due("first not made yet", x.fits(6), false);
        due("second never made", x.fits(7), false);
        due("second is coin 0", x.fits(8), false);
        due("its own coin", x.fits(9), false);
    }

    private static void promise13TransactionOrder() {
        promise = "13";
        ReorgLedger x = new ReorgLedger();
        due("coin x, amount", x.transaction(64, -1, 0, 0), ReorgLedger.BAD_COIN);
        due("coin y, amount", x.transaction(0, -2, 0, 0), ReorgLedger.BAD_COIN);
        for (int t = 0; t < 16; t++) {
            x.transaction(32, -1, 1, 0);
        }
        due("coin x, amount, full", x.transaction(-1, -1, 1001, 0), ReorgLedger.BAD_COIN);
        due("coin y, full", x.transaction(0, 64, 1, 0), ReorgLedger.BAD_COIN);
        due("amount, full", x.transaction(0, -1, 0, 0), ReorgLedger.BAD_AMOUNT);
        due("full", x.transaction(0, -1, 1, 0), ReorgLedger.FULL);
    }

    private static void promise13BlockOrder() {
        promise = "13";
        ReorgLedger x = new ReorgLedger();
        int noTxNoWork = content(0, NONE, 0);
        due("block, owner, tx, work", x.block(1, 8, noTxNoWork), ReorgLedger.NO_BLOCK);
        due("owner, tx, work", x.block(0, 8, noTxNoWork), ReorgLedger.BAD_OWNER);
        due("tx, work", x.block(0, 0, noTxNoWork), ReorgLedger.NO_TX);
        due("second tx, work", x.block(0, 0, content(NONE, 0, 0)), ReorgLedger.NO_TX);
        due("work", x.block(0, 0, 0), ReorgLedger.BAD_WORK);
        for (int b = 0; b < 20; b++) {
            x.block(0, 0, content(NONE, NONE, 1));
        }
        due("block, all, full", x.block(21, 8, noTxNoWork), ReorgLedger.NO_BLOCK);
        due("owner, all, full", x.block(20, 8, noTxNoWork), ReorgLedger.BAD_OWNER);
        due("tx, work, full", x.block(20, 0, noTxNoWork), ReorgLedger.NO_TX);
        due("work, full", x.block(20, 0, 0), ReorgLedger.BAD_WORK);
        due("full", x.block(20, 0, content(NONE, NONE, 1)), ReorgLedger.FULL);
    }

    private static void queriesChangeNothing() {
        promise = "5 to 12";
        ReorgLedger x = new ReorgLedger();
        x.transaction(32, -1, 20, 8);
        x.transaction(1, -1, 30, 8);
        x.block(0, 1, content(0, NONE, 2));
        x.block(0, 1, content(NONE, NONE, 2));
        for (int round = 0; round < 3; round++) {
            due("fits(1)", x.fits(1), true);
            due("fits(0)", x.fits(0), false);
            due("tip", x.tip(), 1);
            due("valid(2)", x.valid(2), true);
            due("total(2)", x.total(2), 2);
            due("balance(1)", x.balance(1), 80);
            due("unspent(1)", x.unspent(1), true);
            due("confirmations(0)", x.confirmations(0), 1);
            due("confirmations(1)", x.confirmations(1), 0);
            due("shared(1, 2)", x.shared(1, 2), 1);
        }
    }

    private static int content(int first, int second, int work) {
        return first + 1 | second + 1 << 5 | work << 10;
    }

    private static void dueBlock(String what, ReorgLedger x, int parent, int content, boolean valid) {
        int block = x.block(parent, 0, content);
        due(what + ": added", block > 0, true);
        due(what, x.valid(block), valid);
    }

    private static void dueFits(String what, ReorgLedger x, boolean... fits) {
        for (int t = 0; t < fits.length; t++) {
            due(what + ", fits " + t, x.fits(t), fits[t]);
        }
    }

    private static void due(String what, boolean got, boolean want) {
        due(what, got ? 1 : 0, want ? 1 : 0);
    }

    private static void due(String what, int got, int want) {
        if (got != want) {
            wrong++;
            System.out.println("promise " + promise + ", " + what + ": answered " + got + ", due is " + want);
        }
    }
}
