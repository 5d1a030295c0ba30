import java.util.ArrayList;
import java.util.Comparator;
import java.util.HashMap;
import java.util.List;
import java.util.Map;

/**
 * The document once more, written down sentence by sentence and without a thought of room or speed: every number
 * has a name in one map, every list is a list of the library. RandomRunsTest holds Newsmint against it.
 */
public final class PlainMint {
    private static final class Payment {
        int from, to, amount, state, boughtOn = -1, doneOn = -1;
    }

    private static final class Loan {
        int holder, owner, left, rate, overdue;
    }

    private record Bid(int bank, int price, int number) { }

    private record Taken(int bank, int number) { }

    private static final class Issue {
        int due;
        final int[] held = new int[5];
    }

    private final Map<String, Integer> number = new HashMap<>();
    private final Map<Integer, Integer> bankOf = new HashMap<>();
    private final Map<Integer, int[]> workOf = new HashMap<>();
    private final List<Payment> payments = new ArrayList<>();
    private final List<Loan> loans = new ArrayList<>();
    private final List<Issue> issues = new ArrayList<>();
    private final List<int[]> draws = new ArrayList<>();
    private final List<int[]> bought = new ArrayList<>();
    private List<Bid> bids = new ArrayList<>();
    private int today;

    public PlainMint() {
        set("capital rule", 10);
        set("reserve rule", 10);
        set("exchange", 100);
        for (int b = 0; b < 4; b++) set("limit", b, 1000);
        for (int h = 0; h < 10; h++) set("expects", h, 10);
        for (int f = 10; f < 16; f++) set("price", f, 10);
    }

    private int get(String name) { return number.getOrDefault(name, 0); }
    private int get(String name, int of) { return get(name + " " + of); }
    private void set(String name, int to) { number.put(name, to); }
    private void set(String name, int of, int to) { set(name + " " + of, to); }
    private void add(String name, int more) { set(name, get(name) + more); }
    private void add(String name, int of, int more) { set(name, of, get(name, of) + more); }

    private static void there(boolean is) { if (!is) throw new IndexOutOfBoundsException(); }
    private static void right(boolean is) { if (!is) throw new IllegalArgumentException(); }
    private static void lets(boolean is) { if (!is) throw new IllegalStateException(); }
    private static boolean in(int x, int low, int high) { return low <= x && x <= high; }
    private static boolean isHolder(int h) { return in(h, 0, 15); }
    private static boolean isHousehold(int h) { return in(h, 0, 9); }
    private static boolean isFirm(int h) { return in(h, 10, 15); }
    private static boolean isBank(int b) { return in(b, 0, 3); }

    private static int down(long top, long below) { return (int) Math.floorDiv(top, below); }
    private static int up(long top, long below) { return (int) -Math.floorDiv(-top, below); }

    private boolean has(int holder) { return bankOf.containsKey(holder); }
    private int free(int holder) { return get("account", holder) - get("blocked", holder); }
    private boolean failed(int bank) { return get("failed", bank) == 1; }
    private int held(int owner) { return issues.stream().mapToInt(i -> i.held[owner]).sum(); }
    private int lentOut(int owner) { return loans.stream().filter(l -> l.owner == owner).mapToInt(l -> l.left).sum(); }

    private List<Integer> accountsAt(int bank) {
        List<Integer> found = new ArrayList<>();
        for (int h = 0; h < 16; h++) if (has(h) && bankOf.get(h) == bank) found.add(h);
        return found;
    }

    private int deposits(int bank) { return accountsAt(bank).stream().mapToInt(h -> get("account", h)).sum(); }

    private int capital(int bank) {
        return get("reserves", bank) + get("vault", bank) + held(bank) + lentOut(bank) - deposits(bank) - get("lent", bank);
    }

    public int mint(int holder, int amount) {
        there(isHolder(holder));
        right(in(amount, 1, 1000));
        add("good", holder, amount);
        return ofHolder(holder, 3);
    }

    public int forge(int holder, int amount) {
        there(isHolder(holder));
        right(in(amount, 1, 100));
        add("forged", holder, amount);
        return ofHolder(holder, 3);
    }

    private int forgedOf(int holder, int amount) {
        return down((long) amount * get("forged", holder), get("forged", holder) + get("good", holder));
    }

    public int hand(int from, int to, int amount) {
        there(isHolder(from) && isHolder(to));
        right(from != to && in(amount, 1, 10000));
        lets(ofHolder(from, 3) >= amount);
        int forged = forgedOf(from, amount);
        add("forged", from, -forged);
        add("forged", to, forged);
        add("good", from, forged - amount);
        add("good", to, amount - forged);
        return forged;
    }

    public int open(int holder, int bank) {
        there(isHolder(holder) && isBank(bank));
        lets(!has(holder) && !failed(bank));
        bankOf.put(holder, bank);
        return accountsAt(bank).size();
    }

    public int close(int holder) {
        there(isHolder(holder));
        lets(has(holder) && get("account", holder) == 0);
        lets(payments.stream().noneMatch(p -> p.state == 0 && p.to == holder));
        return bankOf.remove(holder);
    }

    public int bring(int holder, int amount) {
        there(isHolder(holder));
        right(in(amount, 1, 10000));
        lets(has(holder) && ofHolder(holder, 3) >= amount);
        int forged = forgedOf(holder, amount);
        add("forged", holder, -forged);
        add("good", holder, forged - amount);
        add("vault", bankOf.get(holder), amount - forged);
        add("account", holder, amount - forged);
        return amount - forged;
    }

    public int draw(int holder, int amount) {
        there(isHolder(holder));
        right(in(amount, 1, 10000));
        lets(has(holder) && free(holder) >= amount);
        return drawAny(holder, amount);
    }

    private int drawAny(int holder, int amount) {
        int bank = bankOf.get(holder);
        int got = 0;
        while (got < amount && get("vault", bank) > 0) {
            add("vault", bank, -1);
            got++;
        }
        while (got < amount && get("reserves", bank) > 0) {
            add("reserves", bank, -1);
            got++;
        }
        add("account", holder, -got);
        add("good", holder, got);
        if (got >= 1) draws.add(new int[] {today, holder, bank});
        if (got < amount) failNow(bank);
        return got;
    }

    public int pay(int from, int to, int amount) {
        there(isHolder(from) && isHolder(to));
        right(from != to && in(amount, 1, 10000));
        lets(has(from) && has(to) && free(from) >= amount && payments.size() < 200);
        return payAny(from, to, amount, -1);
    }

    private int payAny(int from, int to, int amount, int boughtOn) {
        Payment p = new Payment();
        p.from = from;
        p.to = to;
        p.amount = amount;
        p.boughtOn = boughtOn;
        payments.add(p);
        add("blocked", from, amount);
        if (bankOf.get(from).equals(bankOf.get(to))) done(p);
        return payments.size() - 1;
    }

    private void done(Payment p) {
        add("blocked", p.from, -p.amount);
        add("account", p.from, -p.amount);
        add("account", p.to, p.amount);
        p.state = 1;
        p.doneOn = today;
    }

    private int net(List<Payment> of, int bank) {
        int net = 0;
        for (Payment p : of) {
            if (bankOf.get(p.to) == bank) net += p.amount;
            if (bankOf.get(p.from) == bank) net -= p.amount;
        }
        return net;
    }

    private List<Payment> waiting() { return new ArrayList<>(payments.stream().filter(p -> p.state == 0).toList()); }

    public int clear() {
        List<Payment> chosen = waiting();
        while (true) {
            int worst = -1, most = 0;
            for (int b = 0; b < 4; b++) {
                int net = net(chosen, b);
                int lesser = Math.min(get("reserves", b), get("limit", b));
                if (net < 0 && -net - lesser > most) {
                    most = -net - lesser;
                    worst = b;
                }
            }
            if (worst < 0) break;
            int last = chosen.size() - 1;
            while (bankOf.get(chosen.get(last).from) != worst) last--;
            chosen.remove(last);
        }
        int[] nets = new int[4];
        for (int b = 0; b < 4; b++) nets[b] = net(chosen, b);
        for (int b = 0; b < 4; b++) add("reserves", b, nets[b]);
        chosen.forEach(this::done);
        return chosen.size();
    }

    public int limit(int bank, int limit) {
        there(isBank(bank));
        right(in(limit, 0, 10000));
        int before = get("limit", bank);
        set("limit", bank, limit);
        return before;
    }

    public int endow(int bank, int amount) {
        there(isBank(bank));
        right(in(amount, 1, 10000));
        lets(!failed(bank));
        add("reserves", bank, amount);
        return get("reserves", bank);
    }

    public int lend(int bank, int holder, int amount, int rate) {
        there(isBank(bank) && isHolder(holder));
        right(in(amount, 1, 10000) && in(rate, 0, 100));
        lets(has(holder) && bankOf.get(holder) == bank && loans.size() < 20);
        lets(capital(bank) >= down((long) (lentOut(bank) + amount) * get("capital rule"), 100));
        Loan l = new Loan();
        l.holder = holder;
        l.owner = bank;
        l.left = amount;
        l.rate = rate;
        loans.add(l);
        add("account", holder, amount);
        return loans.size() - 1;
    }

    /** Takes so much from the account of the holder of a loan, if it is there and what moves with it as well. */
    private boolean tookFor(Loan l, int amount) {
        if (amount == 0) return true;
        if (!has(l.holder) || free(l.holder) < amount) return false;
        int bank = bankOf.get(l.holder);
        if (bank != l.owner) {
            if (get("reserves", bank) < amount) return false;
            add("reserves", bank, -amount);
            if (l.owner < 4) add("reserves", l.owner, amount);
        }
        add("account", l.holder, -amount);
        return true;
    }

    public int payBack(int loan, int amount) {
        there(in(loan, 0, loans.size() - 1));
        right(in(amount, 1, 10000));
        Loan l = loans.get(loan);
        lets(l.left >= amount);
        lets(tookFor(l, amount));
        l.left -= amount;
        return l.left;
    }

    public int window(int bank, int amount) {
        there(isBank(bank));
        right(in(amount, 1, 10000));
        lets(!failed(bank) && (get("lent", bank) + amount) * 100L <= held(bank) * 90L);
        add("lent", bank, amount);
        add("reserves", bank, amount);
        return get("lent", bank);
    }

    public int windowBack(int bank, int amount) {
        there(isBank(bank));
        right(in(amount, 1, 10000));
        lets(get("lent", bank) >= amount && get("reserves", bank) >= amount);
        add("lent", bank, -amount);
        add("reserves", bank, -amount);
        return get("lent", bank);
    }

    public int rules(int rate, int capital, int reserve) {
        right(in(rate, 0, 100) && in(capital, 0, 100) && in(reserve, 0, 100));
        int before = get("rate");
        set("rate", rate);
        set("capital rule", capital);
        set("reserve rule", reserve);
        return before;
    }

    public int buyBonds(int bank, int count) {
        there(isBank(bank));
        right(in(count, 1, 10000));
        lets(held(bank) >= count);
        int left = count;
        for (Issue i : issues) {
            while (left > 0 && i.held[bank] > 0) {
                i.held[bank]--;
                i.held[4]++;
                left--;
            }
        }
        add("reserves", bank, count);
        return held(bank);
    }

    public int bid(int bank, int price, int count) {
        there(isBank(bank));
        right(in(price, 50, 100) && in(count, 1, 1000));
        lets(!failed(bank) && bids.size() < 12);
        bids.add(new Bid(bank, price, count));
        return bids.size();
    }

    public int auction(int count, int days) {
        right(in(count, 1, 10000) && in(days, 1, 50));
        lets(issues.size() < 20);
        Issue issue = new Issue();
        issue.due = today + days;
        issues.add(issue);
        List<Bid> sorted = new ArrayList<>(bids);
        sorted.sort(Comparator.comparingInt(b -> -b.price()));
        bids = new ArrayList<>();
        List<Taken> taken = new ArrayList<>();
        int[] room = new int[4];
        for (int b = 0; b < 4; b++) room[b] = get("reserves", b);
        int left = count, price = -1;
        for (Bid b : sorted) {
            int gets = Math.min(left, b.number());
            int own = up((long) gets * b.price(), 100);
            if (gets == 0 || room[b.bank()] < own) continue;
            room[b.bank()] -= own;
            left -= gets;
            price = b.price();
            taken.add(new Taken(b.bank(), gets));
        }
        for (Taken t : taken) {
            int pays = up((long) t.number() * price, 100);
            add("reserves", t.bank(), -pays);
            add("treasury", pays);
            issue.held[t.bank()] += t.number();
        }
        return price;
    }

    public int levy(int holder, int percent) {
        there(isHolder(holder));
        right(in(percent, 1, 100));
        lets(has(holder));
        int amount = down((long) free(holder) * percent, 100);
        lets(get("reserves", bankOf.get(holder)) >= amount);
        add("account", holder, -amount);
        add("reserves", bankOf.get(holder), -amount);
        add("treasury", amount);
        return amount;
    }

    public int spend(int holder, int amount) {
        there(isHolder(holder));
        right(in(amount, 1, 10000));
        lets(has(holder) && get("treasury") >= amount);
        add("account", holder, amount);
        add("reserves", bankOf.get(holder), amount);
        add("treasury", -amount);
        return get("treasury");
    }

    public int exchange(int rate) {
        right(in(rate, 10, 1000));
        int before = get("exchange");
        set("exchange", rate);
        return before;
    }

    public int abroad(int firm, int amount, boolean sells) {
        there(isFirm(firm));
        right(in(amount, 1, 1000));
        lets(has(firm));
        int bank = bankOf.get(firm);
        int worth = down((long) amount * get("exchange"), 100);
        if (!sells) lets(get("foreign") >= amount && free(firm) >= worth && get("reserves", bank) >= worth);
        int way = sells ? 1 : -1;
        add("account", firm, way * worth);
        add("reserves", bank, way * worth);
        add("foreign", way * amount);
        add("paid abroad", way * worth);
        return worth;
    }

    public int hire(int household, int firm, int wage) {
        there(isHousehold(household) && isFirm(firm));
        right(in(wage, 1, 1000));
        int before = ofHolder(household, 6);
        workOf.put(household, new int[] {firm, wage});
        return before;
    }

    public int buy(int household, int firm, int units) {
        there(isHousehold(household) && isFirm(firm));
        right(in(units, 1, 20));
        int cost = get("price", firm) * units;
        lets(has(household) && has(firm) && free(household) >= cost && payments.size() < 200);
        bought.add(new int[] {firm, units});
        return payAny(household, firm, cost, today);
    }

    public int day(int days) {
        right(in(days, 1, 5));
        lets(today + days <= 200);
        for (int i = 0; i < days; i++) oneDay();
        int stand = 0;
        for (int b = 0; b < 4; b++) if (!failed(b)) stand++;
        return stand;
    }

    private void oneDay() {
        today++;
        for (int h = 0; h < 10; h++) {
            if (!workOf.containsKey(h)) continue;
            int firm = workOf.get(h)[0], wage = workOf.get(h)[1];
            if (has(h) && has(firm) && free(firm) >= wage && payments.size() < 200) payAny(firm, h, wage, -1);
            else workOf.remove(h);
        }
        for (Loan l : loans) {
            if (l.left == 0) continue;
            if (tookFor(l, down((long) l.left * l.rate, 1000))) l.overdue = 0;
            else if (++l.overdue == 3) l.left = 0;
        }
        for (int b = 0; b < 4; b++) {
            int owes = down((long) get("lent", b) * get("rate"), 1000);
            while (owes > 0 && get("reserves", b) > 0) {
                add("reserves", b, -1);
                owes--;
            }
            add("lent", b, owes);
        }
        clear();
        for (Issue i : issues) {
            if (i.due > today) continue;
            for (int owner : new int[] {4, 0, 1, 2, 3}) {
                while (i.held[owner] > 0 && get("treasury") > 0) {
                    i.held[owner]--;
                    add("treasury", -1);
                    if (owner < 4) add("reserves", owner, 1);
                }
            }
        }
        for (int b = 0; b < 4; b++) {
            int due = up((long) deposits(b) * get("reserve rule"), 100);
            while (get("reserves", b) + get("vault", b) < due && (get("lent", b) + 1) * 100L <= held(b) * 90L) {
                add("lent", b, 1);
                add("reserves", b, 1);
            }
            set("short", b, get("reserves", b) + get("vault", b) < due ? 1 : 0);
        }
        for (int h = 0; h < 10; h++) {
            if (!has(h) || free(h) <= 0) continue;
            int me = h, bank = bankOf.get(h);
            boolean near = draws.stream().anyMatch(d -> (d[0] == today || d[0] == today - 1)
                    && (d[1] == me - 1 || d[1] == me + 1) && d[1] < 10 && d[2] == bank);
            if (near || get("short", bank) == 1) drawAny(h, free(h));
        }
        for (int b = 0; b < 4; b++) if (!failed(b) && capital(b) < 0) failNow(b);
        int sum = 0;
        for (int f = 10; f < 16; f++) {
            int firm = f;
            int units = bought.stream().filter(x -> x[0] == firm).mapToInt(x -> x[1]).sum();
            if (units >= 5) add("price", f, 1);
            if (units == 0 && get("price", f) > 1) add("price", f, -1);
            sum += get("price", f);
        }
        bought.clear();
        for (int h = 0; h < 10; h++) {
            int gap = down(sum, 6) - get("expects", h);
            add("expects", h, gap < 0 ? -(-gap / 4) : gap / 4);
        }
    }

    public int fail(int bank) {
        there(isBank(bank));
        lets(!failed(bank));
        return failNow(bank);
    }

    private int failNow(int bank) {
        for (Payment p : waiting()) {
            if (bankOf.get(p.from) != bank && bankOf.get(p.to) != bank) continue;
            p.state = 2;
            add("blocked", p.from, -p.amount);
        }
        bids.removeIf(b -> b.bank() == bank);
        int left = get("reserves", bank) + get("vault", bank) + down(held(bank) * 90L, 100) + down(lentOut(bank) * 50L, 100)
                - get("lent", bank);
        for (Issue i : issues) {
            i.held[4] += i.held[bank];
            i.held[bank] = 0;
        }
        for (Loan l : loans) if (l.owner == bank) l.owner = 4;
        for (String name : List.of("reserves", "vault", "lent", "short")) set(name, bank, 0);
        set("failed", bank, 1);
        List<Integer> mine = accountsAt(bank);
        int parts = 0;
        for (int h : mine) {
            left -= Math.min(100, get("account", h));
            parts += Math.max(0, get("account", h) - 100);
        }
        if (left < 0) left = 0;
        int heir = 0;
        while (heir < 4 && failed(heir)) heir++;
        int all = 0;
        for (int h : mine) {
            int part = Math.max(0, get("account", h) - 100);
            int gets = Math.min(100, get("account", h));
            if (part > 0) gets += Math.min(part, down((long) part * left, parts));
            all += gets;
            if (heir < 4) {
                bankOf.put(h, heir);
                set("account", h, gets);
                add("reserves", heir, gets);
            } else {
                bankOf.remove(h);
                set("account", h, 0);
                add("good", h, gets);
            }
        }
        return all;
    }

    public int days() { return today; }

    public int ofHolder(int holder, int what) {
        there(isHolder(holder));
        right(in(what, 0, 7));
        int[] work = workOf.getOrDefault(holder, new int[] {-1, 0});
        return new int[] {bankOf.getOrDefault(holder, -1), get("account", holder), free(holder),
            get("good", holder) + get("forged", holder), get("forged", holder), work[0], work[1],
            get("expects", holder)}[what];
    }

    public int accountAnew(int holder) { return ofHolder(holder, 1); }

    public int ofBank(int bank, int what) {
        there(isBank(bank));
        right(in(what, 0, 9));
        return new int[] {get("reserves", bank), get("vault", bank), held(bank), lentOut(bank), deposits(bank),
            get("lent", bank), capital(bank), net(waiting(), bank), get("short", bank), get("failed", bank)}[what];
    }

    public int ofLoan(int loan, int what) {
        there(in(loan, 0, loans.size() - 1));
        right(in(what, 0, 3));
        Loan l = loans.get(loan);
        return new int[] {l.holder, l.owner, l.left, l.overdue}[what];
    }

    public int payment(int payment) {
        there(in(payment, 0, payments.size() - 1));
        return payments.get(payment).state;
    }

    public int treasury() { return get("treasury"); }

    public int owed() {
        int all = 0;
        for (int owner = 0; owner < 5; owner++) all += held(owner);
        return all;
    }

    public int foreign() { return get("foreign"); }

    public int central() {
        int has = held(4) + lentOut(4) + get("paid abroad") - get("treasury");
        for (int b = 0; b < 4; b++) has += get("lent", b) - get("reserves", b) - get("vault", b);
        for (int h = 0; h < 16; h++) has -= get("good", h);
        return has;
    }

    public int centralAnew() { return central(); }

    public int money() {
        int all = 0;
        for (int h = 0; h < 16; h++) all += get("account", h) + get("good", h);
        return all;
    }

    public int price(int firm) {
        there(isFirm(firm));
        return get("price", firm);
    }

    public int sales(int day, boolean revised) {
        there(in(day, 0, today));
        return payments.stream().filter(p -> p.boughtOn == day && p.state == 1 && (revised || p.doneOn == day))
                .mapToInt(p -> p.amount).sum();
    }
}
