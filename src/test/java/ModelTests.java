import java.util.ArrayList;
import java.util.HashMap;
import java.util.HashSet;
import java.util.List;
import java.util.Map;
import java.util.Set;

// Many runs of calls, compared with a slow model that replays whole branches as the document's
// terms tell it. The runs come from a fixed sequence of numbers and are the same each time.
public final class ModelTests {
    private static final int RUNS = 6000;
    private static final int CALLS = 500;

    private record Transaction(int x, int y, int amount, int sender, int receiver) { }

    private record Block(int parent, int miner, int work, List<Integer> transactions) { }

    private record Coin(int amount, int owner) { }

    private static final class State {
        final Map<Integer, Coin> unspent = new HashMap<>();
        final Set<Integer> made = new HashSet<>();
        boolean allFitted = true;

        void make(int number, int amount, int owner) {
            unspent.put(number, new Coin(amount, owner));
            made.add(number);
        }
    }

    private static final class Model {
        final List<Transaction> transactions = new ArrayList<>();
        final List<Block> blocks = new ArrayList<>();
        final Set<Integer> banned = new HashSet<>();
        int tip = 0;

        Model() {
            blocks.add(new Block(-1, 0, 0, List.of()));
        }

        List<Integer> branch(int block) {
            List<Integer> branch = new ArrayList<>();
            for (int b = block; b >= 0; b = blocks.get(b).parent()) {
                branch.add(0, b);
            }
            return branch;
        }

        State stateBehind(int block) {
            State state = new State();
            for (int b : branch(block)) {
                state.make(32 + b, 50, blocks.get(b).miner());
                for (int t : blocks.get(b).transactions()) {
                    carryOut(t, state);
                }
            }
            return state;
        }

        void carryOut(int t, State state) {
            if (!fitsState(t, state)) {
                state.allFitted = false;
                return;
            }
            Transaction transaction = transactions.get(t);
            int rest = -transaction.amount();
            for (int coin : spentBy(transaction)) {
                rest += state.unspent.remove(coin).amount();
            }
            state.make(2 * t, transaction.amount(), transaction.receiver());
            if (rest > 0) {
                state.make(2 * t + 1, rest, transaction.sender());
            }
        }

        List<Integer> spentBy(Transaction transaction) {
            return transaction.y() == -1 ? List.of(transaction.x()) : List.of(transaction.x(), transaction.y());
        }

        boolean fitsState(int t, State state) {
            Transaction transaction = transactions.get(t);
            int sum = 0;
            for (int coin : spentBy(transaction)) {
                if (!state.unspent.containsKey(coin)) {
                    return false;
                }
                sum += state.unspent.get(coin).amount();
            }
            return transaction.x() != transaction.y() && sum >= transaction.amount()
                && !state.made.contains(2 * t) && !state.made.contains(2 * t + 1);
        }

        boolean exists(int block) {
            return block >= 0 && block < blocks.size();
        }

        void moveTip() {
            int greatest = -1;
            int smallest = -1;
            for (int b = 0; b < blocks.size(); b++) {
                if (valid(b) && total(b) > greatest) {
                    greatest = total(b);
                    smallest = b;
                }
            }
            if (!valid(tip) || total(tip) < greatest) {
                tip = smallest;
            }
        }

        int transaction(int x, int y, int amount, int owners) {
            if (x < 0 || x > 63 || y < -1 || y > 63) {
                return ReorgLedger.BAD_COIN;
            }
            if (amount < 1 || amount > 1000) {
                return ReorgLedger.BAD_AMOUNT;
            }
            if (transactions.size() == 16) {
                return ReorgLedger.FULL;
            }
            transactions.add(new Transaction(x, y, amount, owners >> 3 & 7, owners & 7));
            return transactions.size() - 1;
        }

        int block(int parent, int miner, int content) {
            if (!exists(parent)) {
                return ReorgLedger.NO_BLOCK;
            }
            if (miner < 0 || miner > 7) {
                return ReorgLedger.BAD_OWNER;
            }
            List<Integer> chosen = new ArrayList<>();
            for (int field : new int[] {content & 31, content >> 5 & 31}) {
                if (field > transactions.size()) {
                    return ReorgLedger.NO_TX;
                }
                if (field > 0) {
                    chosen.add(field - 1);
                }
            }
            int work = content >> 10 & 15;
            if (work == 0) {
                return ReorgLedger.BAD_WORK;
            }
            if (blocks.size() == 21) {
                return ReorgLedger.FULL;
            }
            blocks.add(new Block(parent, miner, work, chosen));
            moveTip();
            return blocks.size() - 1;
        }

        int ban(int block, boolean on) {
            if (!exists(block) || block == 0) {
                return ReorgLedger.NO_BLOCK;
            }
            boolean before = on ? !banned.add(block) : banned.remove(block);
            moveTip();
            return before ? 1 : 0;
        }

        boolean valid(int block) {
            if (!exists(block)) {
                return false;
            }
            for (int b : branch(block)) {
                if (banned.contains(b)) {
                    return false;
                }
            }
            return stateBehind(block).allFitted;
        }

        int total(int block) {
            if (!exists(block)) {
                return ReorgLedger.NO_BLOCK;
            }
            int sum = 0;
            for (int b : branch(block)) {
                sum += blocks.get(b).work();
            }
            return sum;
        }

        int balance(int owner) {
            if (owner < 0 || owner > 7) {
                return ReorgLedger.BAD_OWNER;
            }
            int sum = 0;
            for (Coin coin : stateBehind(tip).unspent.values()) {
                sum += coin.owner() == owner ? coin.amount() : 0;
            }
            return sum;
        }

        int confirmations(int transaction) {
            if (transaction < 0 || transaction >= transactions.size()) {
                return ReorgLedger.NO_TX;
            }
            List<Integer> branch = branch(tip);
            for (int at = 0; at < branch.size(); at++) {
                if (blocks.get(branch.get(at)).transactions().contains(transaction)) {
                    return branch.size() - at;
                }
            }
            return 0;
        }

        int shared(int a, int b) {
            if (!exists(a) || !exists(b)) {
                return ReorgLedger.NO_BLOCK;
            }
            List<Integer> both = branch(a);
            both.retainAll(branch(b));
            return both.size();
        }

        boolean fits(int transaction) {
            return transaction >= 0 && transaction < transactions.size()
                && fitsState(transaction, stateBehind(tip));
        }
    }

    private static long seed = 20261115L;
    private static int wrong = 0;
    private static int tipsLeft = 0;
    private static int deepestConfirmation = 0;

    public static void main(String[] args) {
        for (int run = 0; run < RUNS && wrong < 20; run++) {
            compareRun(run);
        }
        if (wrong == 0 && (tipsLeft < RUNS || deepestConfirmation < 5)) {
            System.out.println("the runs are too tame: " + tipsLeft + " tips left, " + deepestConfirmation + " deep");
            wrong++;
        }
        System.out.println(wrong == 0 ? "class and model agree" : wrong + " answers are not as due");
        if (wrong != 0) {
            System.exit(1);
        }
    }

    private static void compareRun(int run) {
        ReorgLedger x = new ReorgLedger();
        Model model = new Model();
        for (int call = 0; call < CALLS; call++) {
            int kind = below(40);
            if (kind < 3) {
                compareTransaction(run, x, model);
            } else if (kind < 6) {
                compareBlock(run, x, model);
            } else if (kind < 8) {
                compareBan(run, x, model);
            } else {
                compareQuery(run, x, model);
            }
        }
    }

    private static void compareTransaction(int run, ReorgLedger x, Model model) {
        int first = likelyCoin(model);
        int second = below(2) == 0 ? -1 : likelyCoin(model);
        int amount = below(12) == 0 ? below(1003) - 1 : below(60);
        int owners = below(8) == 0 ? number() : below(64);
        due(run, "transaction(" + first + ", " + second + ", " + amount + ", " + owners + ")",
            x.transaction(first, second, amount, owners), model.transaction(first, second, amount, owners));
    }

    private static int likelyCoin(Model model) {
        if (below(4) == 0) {
            return below(67) - 2;
        }
        List<Integer> coins = new ArrayList<>(model.stateBehind(model.tip).unspent.keySet());
        return coins.get(below(coins.size()));
    }

    private static void compareBlock(int run, ReorgLedger x, Model model) {
        int parent = below(3) == 0 ? below(model.blocks.size() + 2) - 1 : model.tip;
        int miner = below(20) == 0 ? below(12) - 2 : below(8);
        int work = below(20) == 0 ? 0 : below(8) == 0 ? below(16) : 1 + below(3);
        int high = below(8) == 0 ? number() & -1 << 14 : 0;
        int content = likelyField(model) | likelyField(model) << 5 | work << 10 | high;
        int before = model.tip;
        due(run, "block(" + parent + ", " + miner + ", " + content + ")",
            x.block(parent, miner, content), model.block(parent, miner, content));
        noteTip(before, model);
    }

    private static int likelyField(Model model) {
        int kind = below(12);
        if (kind < 3) {
            return 0;
        }
        if (kind == 3) {
            return below(32);
        }
        if (kind == 4) {
            return below(model.transactions.size() + 1);
        }
        List<Integer> fields = new ArrayList<>(List.of(0));
        for (int t = 0; t < model.transactions.size(); t++) {
            if (model.fits(t)) {
                fields.add(t + 1);
            }
        }
        return fields.get(below(fields.size()));
    }

    private static void compareBan(int run, ReorgLedger x, Model model) {
        int block = below(3) == 0 ? model.tip : below(model.blocks.size() + 2) - 1;
        boolean on = below(5) < 2;
        int before = model.tip;
        due(run, "ban(" + block + ", " + on + ")", x.ban(block, on), model.ban(block, on));
        noteTip(before, model);
    }

    private static void noteTip(int before, Model model) {
        if (!model.branch(model.tip).contains(before)) {
            tipsLeft++;
        }
    }

    private static void compareQuery(int run, ReorgLedger x, Model model) {
        int a = below(24) - 1;
        int b = below(24) - 1;
        int coin = below(67) - 2;
        int owner = below(11) - 1;
        int transaction = below(19) - 1;
        switch (below(8)) {
            case 0 -> due(run, "tip()", x.tip(), model.tip);
            case 1 -> due(run, "valid(" + a + ")", x.valid(a) ? 1 : 0, model.valid(a) ? 1 : 0);
            case 2 -> due(run, "total(" + a + ")", x.total(a), model.total(a));
            case 3 -> due(run, "balance(" + owner + ")", x.balance(owner), model.balance(owner));
            case 4 -> due(run, "unspent(" + coin + ")", x.unspent(coin) ? 1 : 0,
                model.stateBehind(model.tip).unspent.containsKey(coin) ? 1 : 0);
            case 5 -> {
                int confirmed = model.confirmations(transaction);
                deepestConfirmation = Math.max(deepestConfirmation, confirmed);
                due(run, "confirmations(" + transaction + ")", x.confirmations(transaction), confirmed);
            }
            case 6 -> due(run, "shared(" + a + ", " + b + ")", x.shared(a, b), model.shared(a, b));
            default -> due(run, "fits(" + transaction + ")", x.fits(transaction) ? 1 : 0,
                model.fits(transaction) ? 1 : 0);
        }
    }

    private static int number() {
        seed = seed * 6364136223846793005L + 1442695040888963407L;
        return (int) (seed >>> 32);
    }

    private static int below(int bound) {
        return (number() >>> 1) % bound;
    }

    private static void due(int run, String call, int got, int want) {
        if (got != want) {
            wrong++;
            System.out.println("run " + run + ": " + call + " answered " + got + ", due is " + want);
        }
    }
}
