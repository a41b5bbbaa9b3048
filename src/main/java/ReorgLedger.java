public final class ReorgLedger {
    public static final int BAD_OWNER = -1;
    public static final int BAD_COIN = -2;
    public static final int BAD_AMOUNT = -3;
    public static final int FULL = -4;
    public static final int NO_BLOCK = -5;
    public static final int NO_TX = -6;
    public static final int BAD_WORK = -7;

    private static final int OWNERS = 8;
    private static final int COINS = 64;
    private static final int BLOCK_COINS = 32;
    private static final int BLOCK_COIN_AMOUNT = 50;
    private static final int MOST_PAID = 1000;
    private static final int MOST_TRANSACTIONS = 16;
    private static final int MOST_BLOCKS = 21;
    private static final int MOST_AMOUNTS = MOST_BLOCKS * COINS;
    private static final int NONE = -1;

    private int transactionCount;
    private final int[] firstSpent = new int[MOST_TRANSACTIONS];
    private final int[] secondSpent = new int[MOST_TRANSACTIONS];
    private final int[] paidAmount = new int[MOST_TRANSACTIONS];
    private final int[] senderOf = new int[MOST_TRANSACTIONS];
    private final int[] receiverOf = new int[MOST_TRANSACTIONS];

    private int blockCount;
    private int tipBlock;
    private final int[] parentOf = new int[MOST_BLOCKS];
    private final int[] minerOf = new int[MOST_BLOCKS];
    private final int[] totalOf = new int[MOST_BLOCKS];
    private final boolean[] banned = new boolean[MOST_BLOCKS];
    private final boolean[] standing = new boolean[MOST_BLOCKS];

    // Bit b of an entry: block b lies on the branch from block 0 to this block.
    private final int[] branchOf = new int[MOST_BLOCKS];

    // Bit t of an entry: transaction t was carried out on the branch to this block.
    private final int[] carriedOn = new int[MOST_BLOCKS];

    // Bans never change a state, so whether the transactions of a whole branch fit is settled
    // once, when its last block is added.
    private final boolean[] fitting = new boolean[MOST_BLOCKS];

    // The state behind each block, a row of COINS entries: the amount of an unspent coin, which
    // is never 0, or 0 for a coin that is not unspent. A coin's number tells its owner.
    private final int[] amounts = new int[MOST_AMOUNTS];

    public ReorgLedger() {
        blockCount = 1;
        fitting[0] = true;
        standing[0] = true;
        branchOf[0] = 1;
        amounts[BLOCK_COINS] = BLOCK_COIN_AMOUNT;
    }

    public int transaction(int x, int y, int amount, int owners) {
        if (!isCoin(x) || (y != NONE && !isCoin(y))) {
            return BAD_COIN;
        }
        if (amount < 1 || amount > MOST_PAID) {
            return BAD_AMOUNT;
        }
        if (transactionCount >= MOST_TRANSACTIONS) {
            return FULL;
        }
        int added = transactionCount;
        firstSpent[added] = x;
        secondSpent[added] = y;
        paidAmount[added] = amount;
        senderOf[added] = owners >> 3 & 7;
        receiverOf[added] = owners & 7;
        transactionCount = added + 1;
        return added;
    }

    public int block(int parent, int miner, int content) {
        int first = (content & 31) - 1;
        int second = (content >> 5 & 31) - 1;
        int work = content >> 10 & 15;
        if (!isBlock(parent)) {
            return NO_BLOCK;
        }
        if (!isOwner(miner)) {
            return BAD_OWNER;
        }
        if (first >= transactionCount || second >= transactionCount) {
            return NO_TX;
        }
        if (work == 0) {
            return BAD_WORK;
        }
        if (blockCount >= MOST_BLOCKS) {
            return FULL;
        }
        int added = blockCount;
        blockCount = added + 1;
        parentOf[added] = parent;
        minerOf[added] = miner;
        totalOf[added] = totalOf[parent] + work;
        branchOf[added] = branchOf[parent] | 1 << added;
        buildState(added, first, second);
        chooseTip();
        return added;
    }

    public int ban(int block, boolean on) {
        if (!isBlock(block) || block == 0) {
            return NO_BLOCK;
        }
        int before = banned[block] ? 1 : 0;
        banned[block] = on;
        chooseTip();
        return before;
    }

    public int tip() {
        return tipBlock;
    }

    public boolean valid(int block) {
        return isBlock(block) && standing[block];
    }

    public int total(int block) {
        return isBlock(block) ? totalOf[block] : NO_BLOCK;
    }

    public int balance(int owner) {
        if (!isOwner(owner)) {
            return BAD_OWNER;
        }
        int sum = 0;
        for (int block = 0; block < blockCount; block++) {
            if (minerOf[block] == owner) {
                sum += amountBehind(tipBlock, BLOCK_COINS + block);
            }
        }
        for (int transaction = 0; transaction < transactionCount; transaction++) {
            if (receiverOf[transaction] == owner) {
                sum += amountBehind(tipBlock, 2 * transaction);
            }
            if (senderOf[transaction] == owner) {
                sum += amountBehind(tipBlock, 2 * transaction + 1);
            }
        }
        return sum;
    }

    public boolean unspent(int coin) {
        return isCoin(coin) && amountBehind(tipBlock, coin) > 0;
    }

    public int confirmations(int transaction) {
        if (!isTransaction(transaction)) {
            return NO_TX;
        }
        int holding = 0;
        for (int block = 0; block < blockCount; block++) {
            if (isOnBranch(block, tipBlock) && isCarried(transaction, block)) {
                holding++;
            }
        }
        return holding;
    }

    public int shared(int a, int b) {
        if (!isBlock(a) || !isBlock(b)) {
            return NO_BLOCK;
        }
        int both = 0;
        for (int block = 0; block < blockCount; block++) {
            if (isOnBranch(block, a) && isOnBranch(block, b)) {
                both++;
            }
        }
        return both;
    }

    public boolean fits(int transaction) {
        return isTransaction(transaction) && fitsBehind(tipBlock, transaction);
    }

    private boolean isCoin(int coin) {
        return coin >= 0 && coin < COINS;
    }

    private boolean isOwner(int owner) {
        return owner >= 0 && owner < OWNERS;
    }

    private boolean isTransaction(int transaction) {
        return transaction >= 0 && transaction < transactionCount;
    }

    private boolean isBlock(int block) {
        return block >= 0 && block < blockCount;
    }

    private boolean isOnBranch(int block, int end) {
        return (branchOf[end] >> block & 1) == 1;
    }

    private boolean isCarried(int transaction, int block) {
        return (carriedOn[block] >> transaction & 1) == 1;
    }

    private int amountBehind(int block, int coin) {
        return amounts[block * COINS + coin];
    }

    private void setAmountBehind(int block, int coin, int amount) {
        amounts[block * COINS + coin] = amount;
    }

    // A row left half built does no harm: no block above it is ever valid, so none is the tip.
    private void buildState(int block, int first, int second) {
        int parent = parentOf[block];
        for (int coin = 0; coin < COINS; coin++) {
            amounts[block * COINS + coin] = amounts[parent * COINS + coin];
        }
        carriedOn[block] = carriedOn[parent];
        setAmountBehind(block, BLOCK_COINS + block, BLOCK_COIN_AMOUNT);
        fitting[block] = fitting[parent] && carryOut(block, first) && carryOut(block, second);
    }

    private boolean carryOut(int block, int transaction) {
        if (transaction == NONE) {
            return true;
        }
        if (!fitsBehind(block, transaction)) {
            return false;
        }
        int rest = spendable(block, transaction) - paidAmount[transaction];
        setAmountBehind(block, firstSpent[transaction], 0);
        if (secondSpent[transaction] != NONE) {
            setAmountBehind(block, secondSpent[transaction], 0);
        }
        setAmountBehind(block, 2 * transaction, paidAmount[transaction]);
        setAmountBehind(block, 2 * transaction + 1, rest);
        carriedOn[block] |= 1 << transaction;
        return true;
    }

    // Coin 2t is made whenever t is carried out and by nothing else, so "made before on this
    // branch" is the same as "carried out before on this branch".
    private boolean fitsBehind(int block, int transaction) {
        return !isCarried(transaction, block)
            && spendable(block, transaction) >= paidAmount[transaction];
    }

    // The spent coins' amounts together, or 0, which pays for nothing, if one is not unspent.
    private int spendable(int block, int transaction) {
        int x = firstSpent[transaction];
        int y = secondSpent[transaction];
        int amount = amountBehind(block, x);
        if (y == NONE) {
            return amount;
        }
        int more = amountBehind(block, y);
        return x == y || amount == 0 || more == 0 ? 0 : amount + more;
    }

    private void chooseTip() {
        // A parent has a smaller number than its child, so it is judged first.
        for (int block = 1; block < blockCount; block++) {
            standing[block] = fitting[block] && !banned[block] && standing[parentOf[block]];
        }
        int best = 0;
        for (int block = 1; block < blockCount; block++) {
            if (standing[block] && totalOf[block] > totalOf[best]) {
                best = block;
            }
        }
        if (!standing[tipBlock] || totalOf[best] > totalOf[tipBlock]) {
            tipBlock = best;
        }
    }
}
