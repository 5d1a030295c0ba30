/**
 * An island's whole money: who holds notes and accounts, what banks have and owe, what the central bank and the
 * treasury do, and how a day goes by. Each call of the face looks at its arguments first, then at the state, and
 * changes something only when nothing is left that could be wrong.
 */
public final class Newsmint {

    public static final int NONE = -1;
    public static final int WAITS = 0, DONE = 1, TAKEN = 2;

    private static final int HOUSEHOLDS = 10;
    private static final int HOLDERS = 16;
    private static final int BANKS = 4;
    /** Loans and bonds are had by a bank, under its number, or by the central bank, under this one. */
    private static final int CENTRAL = 4;
    private static final int OWNERS = 5;

    private static final int MOST_AMOUNT = 10000;
    private static final int MOST_PAYMENTS = 200;
    private static final int MOST_LOANS = 20;
    private static final int MOST_BIDS = 12;
    private static final int MOST_AUCTIONS = 20;
    private static final int MOST_DAYS = 200;

    private static final int SURE = 100;
    private static final int PERCENT_ON_BONDS = 90;
    private static final int PERCENT_ON_LOANS = 50;
    private static final int OVERDUE_TO_THE_END = 3;
    private static final int GOODS_FOR_A_RISE = 5;

    private final Books books;
    private final Payments payments;
    private final Loans loans;
    private final Bonds bonds;
    private int today;

    public Newsmint() {
        books = new Books();
        payments = new Payments();
        loans = new Loans();
        bonds = new Bonds();
    }

    // ---- notes, accounts

    public int mint(int holder, int amount) throws IndexOutOfBoundsException, IllegalArgumentException {
        needHolder(holder);
        needRange(amount, 1, 1000);
        Holder getter = books.holder(holder);
        getter.takeNotes(amount, 0);
        books.noteCentral(-amount);
        return getter.notes;
    }

    public int forge(int holder, int amount) throws IndexOutOfBoundsException, IllegalArgumentException {
        needHolder(holder);
        needRange(amount, 1, 100);
        Holder forger = books.holder(holder);
        forger.takeNotes(amount, amount);
        return forger.notes;
    }

    public int hand(int from, int to, int amount)
            throws IndexOutOfBoundsException, IllegalArgumentException, IllegalStateException {
        needHolder(from);
        needHolder(to);
        needArgument(from != to);
        needRange(amount, 1, MOST_AMOUNT);
        Holder giver = books.holder(from);
        needState(giver.notes >= amount);
        int forged = giver.forgedAmong(amount);
        giver.takeNotes(-amount, -forged);
        books.holder(to).takeNotes(amount, forged);
        return forged;
    }

    public int open(int holder, int bank) throws IndexOutOfBoundsException, IllegalStateException {
        needHolder(holder);
        needBank(bank);
        Holder opener = books.holder(holder);
        needState(opener.bank == NONE && !books.bank(bank).hasFailed);
        opener.bank = bank;
        return books.accountsAt(bank);
    }

    public int close(int holder) throws IndexOutOfBoundsException, IllegalStateException {
        needHolder(holder);
        Holder closer = books.holder(holder);
        needState(closer.bank != NONE && closer.balance == 0 && !payments.oneWaitsTo(holder));
        int bank = closer.bank;
        closer.bank = NONE;
        return bank;
    }

    public int bring(int holder, int amount)
            throws IndexOutOfBoundsException, IllegalArgumentException, IllegalStateException {
        needHolder(holder);
        needRange(amount, 1, MOST_AMOUNT);
        Holder bringer = books.holder(holder);
        needState(bringer.bank != NONE && bringer.notes >= amount);
        int forged = bringer.forgedAmong(amount);
        int good = amount - forged;
        bringer.takeNotes(-amount, -forged);
        books.bank(bringer.bank).vault += good;
        books.change(holder, good);
        return good;
    }

    public int draw(int holder, int amount)
            throws IndexOutOfBoundsException, IllegalArgumentException, IllegalStateException {
        needHolder(holder);
        needRange(amount, 1, MOST_AMOUNT);
        Holder drawer = books.holder(holder);
        int bank = drawer.bank;
        needState(bank != NONE && drawer.free() >= amount);
        int got = drawNotes(holder, amount);
        if (got < amount) {
            failBank(bank);
        }
        return got;
    }

    // ---- payments

    public int pay(int from, int to, int amount)
            throws IndexOutOfBoundsException, IllegalArgumentException, IllegalStateException {
        needHolder(from);
        needHolder(to);
        needArgument(from != to);
        needRange(amount, 1, MOST_AMOUNT);
        needState(canPay(from, to, amount));
        return payments.tell(books, from, to, amount, NONE, today);
    }

    public int clear() {
        return payments.clearAll(books, today);
    }

    public int limit(int bank, int limit) throws IndexOutOfBoundsException, IllegalArgumentException {
        needBank(bank);
        needRange(limit, 0, 10000);
        Bank limited = books.bank(bank);
        int before = limited.limit;
        limited.limit = limit;
        return before;
    }

    // ---- loans, the central bank

    public int endow(int bank, int amount)
            throws IndexOutOfBoundsException, IllegalArgumentException, IllegalStateException {
        needBank(bank);
        needRange(amount, 1, MOST_AMOUNT);
        Bank endowed = books.bank(bank);
        needState(!endowed.hasFailed);
        endowed.reserves += amount;
        books.noteCentral(-amount);
        return endowed.reserves;
    }

    public int lend(int bank, int holder, int amount, int rate)
            throws IndexOutOfBoundsException, IllegalArgumentException, IllegalStateException {
        needBank(bank);
        needHolder(holder);
        needRange(amount, 1, MOST_AMOUNT);
        needRange(rate, 0, 100);
        needState(books.holder(holder).bank == bank && !loans.isFull());
        int loansThen = loans.leftOf(bank) + amount;
        needState(capitalOf(bank) >= share(loansThen, books.central.capitalRule, 100));
        books.change(holder, amount);
        return loans.give(bank, holder, amount, rate);
    }

    public int payBack(int loan, int amount)
            throws IndexOutOfBoundsException, IllegalArgumentException, IllegalStateException {
        needLoan(loan);
        needRange(amount, 1, MOST_AMOUNT);
        Loan paid = loans.at(loan);
        needState(paid.left >= amount && books.canPayOwner(paid, amount));
        books.payOwner(paid, amount);
        paid.left -= amount;
        return paid.left;
    }

    public int window(int bank, int amount)
            throws IndexOutOfBoundsException, IllegalArgumentException, IllegalStateException {
        needBank(bank);
        needRange(amount, 1, MOST_AMOUNT);
        Bank borrower = books.bank(bank);
        needState(!borrower.hasFailed && amount <= roomAtWindow(bank));
        borrower.borrow(amount);
        return borrower.lent;
    }

    public int windowBack(int bank, int amount)
            throws IndexOutOfBoundsException, IllegalArgumentException, IllegalStateException {
        needBank(bank);
        needRange(amount, 1, MOST_AMOUNT);
        Bank borrower = books.bank(bank);
        needState(borrower.lent >= amount && borrower.reserves >= amount);
        borrower.borrow(-amount);
        return borrower.lent;
    }

    public int rules(int rate, int capital, int reserve) throws IllegalArgumentException {
        needRange(rate, 0, 100);
        needRange(capital, 0, 100);
        needRange(reserve, 0, 100);
        Central central = books.central;
        int before = central.rate;
        central.rate = rate;
        central.capitalRule = capital;
        central.reserveRule = reserve;
        return before;
    }

    public int buyBonds(int bank, int number)
            throws IndexOutOfBoundsException, IllegalArgumentException, IllegalStateException {
        needBank(bank);
        needRange(number, 1, MOST_AMOUNT);
        needState(bonds.of(bank) >= number);
        bonds.moveToCentral(bank, number);
        books.bank(bank).reserves += number;
        return bonds.of(bank);
    }

    // ---- the treasury, abroad

    public int bid(int bank, int price, int number)
            throws IndexOutOfBoundsException, IllegalArgumentException, IllegalStateException {
        needBank(bank);
        needRange(price, 50, 100);
        needRange(number, 1, 1000);
        needState(!books.bank(bank).hasFailed && !bonds.bidsAreFull());
        return bonds.addBid(bank, price, number);
    }

    public int auction(int number, int days) throws IllegalArgumentException, IllegalStateException {
        needRange(number, 1, MOST_AMOUNT);
        needRange(days, 1, 50);
        needState(!bonds.auctionsAreFull());
        int price = bonds.takeBids(books, number);
        bonds.sell(books, price, today + days);
        return price;
    }

    public int levy(int holder, int percent)
            throws IndexOutOfBoundsException, IllegalArgumentException, IllegalStateException {
        needHolder(holder);
        needRange(percent, 1, 100);
        Holder levied = books.holder(holder);
        Bank bank = books.bank(levied.bank);
        int amount = share(levied.free(), percent, 100);
        needState(levied.bank != NONE && bank.reserves >= amount);
        books.change(holder, -amount);
        bank.reserves -= amount;
        books.central.treasury += amount;
        return amount;
    }

    public int spend(int holder, int amount)
            throws IndexOutOfBoundsException, IllegalArgumentException, IllegalStateException {
        needHolder(holder);
        needRange(amount, 1, MOST_AMOUNT);
        Holder getter = books.holder(holder);
        Central central = books.central;
        needState(getter.bank != NONE && central.treasury >= amount);
        central.treasury -= amount;
        books.bank(getter.bank).reserves += amount;
        books.change(holder, amount);
        return central.treasury;
    }

    public int exchange(int rate) throws IllegalArgumentException {
        needRange(rate, 10, 1000);
        int before = books.central.exchangeRate;
        books.central.exchangeRate = rate;
        return before;
    }

    public int abroad(int firm, int amount, boolean sells)
            throws IndexOutOfBoundsException, IllegalArgumentException, IllegalStateException {
        needFirm(firm);
        needRange(amount, 1, 1000);
        Holder trader = books.holder(firm);
        Bank bank = books.bank(trader.bank);
        Central central = books.central;
        int worth = share(amount, central.exchangeRate, 100);
        needState(trader.bank != NONE);
        needState(sells || central.foreignMoney >= amount && trader.free() >= worth && bank.reserves >= worth);
        int sign = sells ? 1 : -1;
        books.change(firm, sign * worth);
        bank.reserves += sign * worth;
        central.foreignMoney += sign * amount;
        central.paidForForeign += sign * worth;
        return worth;
    }

    // ---- work, goods, days

    public int hire(int household, int firm, int wage) throws IndexOutOfBoundsException, IllegalArgumentException {
        needHousehold(household);
        needFirm(firm);
        needRange(wage, 1, 1000);
        Holder worker = books.holder(household);
        int before = worker.wage;
        worker.firm = firm;
        worker.wage = wage;
        return before;
    }

    public int buy(int household, int firm, int units)
            throws IndexOutOfBoundsException, IllegalArgumentException, IllegalStateException {
        needHousehold(household);
        needFirm(firm);
        needRange(units, 1, 20);
        Holder seller = books.holder(firm);
        int cost = seller.price * units;
        needState(canPay(household, firm, cost));
        seller.sold += units;
        return payments.tell(books, household, firm, cost, today, today);
    }

    public int day(int days) throws IllegalArgumentException, IllegalStateException {
        needRange(days, 1, 5);
        needState(today <= MOST_DAYS - days);
        for (int i = 0; i < days; i++) {
            passDay();
        }
        return books.banksThatStand();
    }

    public int fail(int bank) throws IndexOutOfBoundsException, IllegalStateException {
        needBank(bank);
        needState(!books.bank(bank).hasFailed);
        return failBank(bank);
    }

    // ---- what is asked

    public int days() {
        return today;
    }

    public int ofHolder(int holder, int what) throws IndexOutOfBoundsException, IllegalArgumentException {
        needHolder(holder);
        needRange(what, 0, 7);
        Holder asked = books.holder(holder);
        switch (what) {
            case 0: return asked.bank;
            case 1: return asked.balance;
            case 2: return asked.free();
            case 3: return asked.notes;
            case 4: return asked.forged;
            case 5: return asked.firm;
            case 6: return asked.wage;
            default: return holder < HOUSEHOLDS ? asked.expects : 0;
        }
    }

    public int accountAnew(int holder) throws IndexOutOfBoundsException {
        needHolder(holder);
        return books.log.sumOf(holder);
    }

    public int ofBank(int bank, int what) throws IndexOutOfBoundsException, IllegalArgumentException {
        needBank(bank);
        needRange(what, 0, 9);
        Bank asked = books.bank(bank);
        switch (what) {
            case 0: return asked.reserves;
            case 1: return asked.vault;
            case 2: return bonds.of(bank);
            case 3: return loans.leftOf(bank);
            case 4: return books.inAccountsAt(bank);
            case 5: return asked.lent;
            case 6: return capitalOf(bank);
            case 7: return payments.waitingNet(bank);
            case 8: return asked.isShort ? 1 : 0;
            default: return asked.hasFailed ? 1 : 0;
        }
    }

    public int ofLoan(int loan, int what) throws IndexOutOfBoundsException, IllegalArgumentException {
        needLoan(loan);
        needRange(what, 0, 3);
        Loan asked = loans.at(loan);
        switch (what) {
            case 0: return asked.holder;
            case 1: return asked.owner;
            case 2: return asked.left;
            default: return asked.overdue;
        }
    }

    public int payment(int payment) throws IndexOutOfBoundsException {
        needIndex(payment >= 0 && payment < payments.count);
        return payments.at(payment).state;
    }

    public int treasury() {
        return books.central.treasury;
    }

    public int owed() {
        int all = 0;
        for (int owner = 0; owner < OWNERS; owner++) {
            all += bonds.of(owner);
        }
        return all;
    }

    public int foreign() {
        return books.central.foreignMoney;
    }

    public int central() {
        int has = books.central.paidForForeign + bonds.of(CENTRAL) + loans.leftOf(CENTRAL);
        int owes = books.central.treasury + books.goodNotesOfHolders();
        for (int i = 0; i < BANKS; i++) {
            Bank bank = books.bank(i);
            has += bank.lent;
            owes += bank.reserves + bank.vault;
        }
        return has - owes;
    }

    public int centralAnew() {
        return books.log.sumOf(Log.CENTRAL_LINE);
    }

    public int money() {
        int all = books.goodNotesOfHolders();
        for (int i = 0; i < HOLDERS; i++) {
            all += books.holder(i).balance;
        }
        return all;
    }

    public int price(int firm) throws IndexOutOfBoundsException {
        needFirm(firm);
        return books.holder(firm).price;
    }

    public int sales(int day, boolean revised) throws IndexOutOfBoundsException {
        needIndex(day >= 0 && day <= today);
        return payments.goodsBoughtOn(day, revised);
    }

    // ---- what is looked at ahead of a change

    private static void needIndex(boolean isThere) {
        if (!isThere) {
            throw new IndexOutOfBoundsException("there is no such one");
        }
    }

    private static void needHolder(int holder) {
        needIndex(holder >= 0 && holder < HOLDERS);
    }

    private static void needHousehold(int household) {
        needIndex(household >= 0 && household < HOUSEHOLDS);
    }

    private static void needFirm(int firm) {
        needIndex(firm >= HOUSEHOLDS && firm < HOLDERS);
    }

    private static void needBank(int bank) {
        needIndex(bank >= 0 && bank < BANKS);
    }

    private void needLoan(int loan) {
        needIndex(loan >= 0 && loan < loans.count);
    }

    private static void needArgument(boolean isRight) {
        if (!isRight) {
            throw new IllegalArgumentException("an argument is out of its range");
        }
    }

    private static void needRange(int value, int least, int most) {
        needArgument(value >= least && value <= most);
    }

    private static void needState(boolean letsIt) {
        if (!letsIt) {
            throw new IllegalStateException("the state does not let it");
        }
    }

    private boolean canPay(int from, int to, int amount) {
        Holder payer = books.holder(from);
        return payer.bank != NONE && books.holder(to).bank != NONE && payer.free() >= amount && !payments.isFull();
    }

    private int capitalOf(int bank) {
        Bank asked = books.bank(bank);
        int has = asked.reserves + asked.vault + bonds.of(bank) + loans.leftOf(bank);
        return has - books.inAccountsAt(bank) - asked.lent;
    }

    /** How much more the central bank lends on the bonds of a bank; below 0 when bonds have gone since. */
    private int roomAtWindow(int bank) {
        return share(bonds.of(bank), PERCENT_ON_BONDS, 100) - books.bank(bank).lent;
    }

    // ---- quotients

    /** The product is a long, since a balance times another one is beyond an int. */
    private static int share(int amount, int part, int whole) {
        return whole <= 0 ? 0 : (int) ((long) amount * part / whole);
    }

    private static int percentRoundedUp(int amount, int percent) {
        return (int) (((long) amount * percent + 99) / 100);
    }

    // ---- a bank gives notes, or fails

    /** What is drawn may be more than what the bank has; that the bank fails then is left to the caller. */
    private int drawNotes(int holder, int amount) {
        Holder drawer = books.holder(holder);
        Bank bank = books.bank(drawer.bank);
        int got = Math.min(amount, bank.vault + bank.reserves);
        int fromVault = Math.min(got, bank.vault);
        bank.vault -= fromVault;
        bank.reserves -= got - fromVault;
        books.change(holder, -got);
        drawer.takeNotes(got, 0);
        if (got > 0) {
            drawer.markDrawn(drawer.bank, today);
        }
        return got;
    }

    private int failBank(int number) {
        Bank bank = books.bank(number);
        payments.takeBack(books, number);
        bonds.dropBids(number);
        int bondsThen = bonds.of(number);
        int loansThen = loans.leftOf(number);
        int own = bank.reserves + bank.vault;
        int toPayOut = own + share(bondsThen, PERCENT_ON_BONDS, 100) + share(loansThen, PERCENT_ON_LOANS, 100)
                - bank.lent;
        books.noteCentral(own + bondsThen + loansThen - bank.lent);
        bonds.moveToCentral(number, bondsThen);
        loans.moveToCentral(number);
        bank.end();
        int paid = books.payOut(number, toPayOut);
        books.noteCentral(-paid);
        return paid;
    }

    // ---- a day

    private void passDay() {
        today++;
        payWages();
        takeInterest();
        takeInterestOfBanks();
        payments.clearAll(books, today);
        bonds.payDue(books, today);
        askForReserves();
        runOnBanks();
        failBanksWithoutCapital();
        changePrices();
        changeExpectations();
    }

    private void payWages() {
        for (int i = 0; i < HOUSEHOLDS; i++) {
            Holder worker = books.holder(i);
            if (worker.firm == NONE) {
                continue;
            }
            if (canPay(worker.firm, i, worker.wage)) {
                payments.tell(books, worker.firm, i, worker.wage, NONE, today);
            } else {
                worker.firm = NONE;
                worker.wage = 0;
            }
        }
    }

    private void takeInterest() {
        for (int i = 0; i < loans.count; i++) {
            Loan loan = loans.at(i);
            if (loan.left <= 0) {
                continue;
            }
            int interest = share(loan.left, loan.rate, 1000);
            if (books.canPayOwner(loan, interest)) {
                takeInterestOn(loan, interest);
            } else {
                missInterestOn(loan);
            }
        }
    }

    private void takeInterestOn(Loan loan, int interest) {
        books.payOwner(loan, interest);
        loan.overdue = 0;
        if (loan.owner == CENTRAL) {
            books.noteCentral(interest);
        }
    }

    private void missInterestOn(Loan loan) {
        loan.overdue++;
        if (loan.overdue < OVERDUE_TO_THE_END) {
            return;
        }
        if (loan.owner == CENTRAL) {
            books.noteCentral(-loan.left);
        }
        loan.left = 0;
    }

    private void takeInterestOfBanks() {
        for (int i = 0; i < BANKS; i++) {
            Bank bank = books.bank(i);
            int interest = share(bank.lent, books.central.rate, 1000);
            int paid = Math.min(interest, bank.reserves);
            bank.reserves -= paid;
            bank.lent += interest - paid;
            books.noteCentral(interest);
        }
    }

    private void askForReserves() {
        for (int i = 0; i < BANKS; i++) {
            Bank bank = books.bank(i);
            int due = percentRoundedUp(books.inAccountsAt(i), books.central.reserveRule);
            int missing = due - bank.reserves - bank.vault;
            int lending = Math.max(0, Math.min(missing, roomAtWindow(i)));
            bank.borrow(lending);
            bank.isShort = missing > lending;
        }
    }

    private void runOnBanks() {
        for (int i = 0; i < HOUSEHOLDS; i++) {
            Holder household = books.holder(i);
            int bank = household.bank;
            int free = household.free();
            if (free > 0 && isAfraid(i, bank) && drawNotes(i, free) < free) {
                failBank(bank);
            }
        }
    }

    private boolean isAfraid(int household, int bank) {
        return books.bank(bank).isShort || hasDrawn(household - 1, bank) || hasDrawn(household + 1, bank);
    }

    private boolean hasDrawn(int neighbour, int bank) {
        return neighbour >= 0 && neighbour < HOUSEHOLDS && books.holder(neighbour).hasDrawnSince(bank, today - 1);
    }

    private void failBanksWithoutCapital() {
        for (int i = 0; i < BANKS; i++) {
            if (!books.bank(i).hasFailed && capitalOf(i) < 0) {
                failBank(i);
            }
        }
    }

    private void changePrices() {
        for (int i = HOUSEHOLDS; i < HOLDERS; i++) {
            Holder firm = books.holder(i);
            if (firm.sold >= GOODS_FOR_A_RISE) {
                firm.price++;
            } else if (firm.sold == 0) {
                firm.price = Math.max(1, firm.price - 1);
            }
            firm.sold = 0;
        }
    }

    private void changeExpectations() {
        int sum = 0;
        for (int i = HOUSEHOLDS; i < HOLDERS; i++) {
            sum += books.holder(i).price;
        }
        int mean = sum / (HOLDERS - HOUSEHOLDS);
        for (int i = 0; i < HOUSEHOLDS; i++) {
            Holder household = books.holder(i);
            household.expects += (mean - household.expects) / 4;
        }
    }

    /** A household or a firm; the fields of the one kind are left alone in the other. */
    private static final class Holder {
        int notes;
        int forged;
        int bank = NONE;
        int balance;
        int blocked;
        int firm = NONE;
        int wage;
        int expects = 10;
        int price = 10;
        int sold;
        /** By banks: the day behind that of the latest draw, so that 0 says that there was none. */
        private final int[] drawn = new int[BANKS];

        int free() {
            return balance - blocked;
        }

        int sureOfAccount() {
            return Math.min(SURE, balance);
        }

        int forgedAmong(int amount) {
            return share(amount, forged, notes);
        }

        void takeNotes(int all, int forgedOfThem) {
            notes += all;
            forged += forgedOfThem;
        }

        void markDrawn(int from, int day) {
            if (from >= 0 && from < drawn.length) {
                drawn[from] = day + 1;
            }
        }

        boolean hasDrawnSince(int from, int day) {
            return from >= 0 && from < drawn.length && drawn[from] > 0 && drawn[from] > day;
        }
    }

    /** What a bank has and owes, but for its loans, bonds and accounts, which are found where they are kept. */
    private static final class Bank {
        int reserves;
        int vault;
        int lent;
        int limit = 1000;
        boolean isShort;
        boolean hasFailed;
        /** The net of the payments that are chosen while payments are cleared. */
        int net;
        /** What the bids that were taken cost at their own prices, in an auction. */
        int promised;

        void borrow(int amount) {
            reserves += amount;
            lent += amount;
        }

        int lacks() {
            return -net - Math.min(reserves, limit);
        }

        void end() {
            reserves = 0;
            vault = 0;
            lent = 0;
            isShort = false;
            hasFailed = true;
        }
    }

    /** What the central bank rules, and what it and the treasury have beside banks, loans and bonds. */
    private static final class Central {
        int rate;
        int capitalRule = 10;
        int reserveRule = 10;
        int exchangeRate = 100;
        int treasury;
        int foreignMoney;
        int paidForForeign;
    }

    /** All that came and went, a line each; when the lines are full, they are carried into a sum for each owner. */
    private static final class Log {
        static final int CENTRAL_LINE = HOLDERS;
        private static final int LINES = 400;
        private final int[] owners = new int[LINES];
        private final int[] changes = new int[LINES];
        private final int[] carried = new int[HOLDERS + 1];
        private int count;

        void note(int owner, int change) {
            if (count >= LINES) {
                for (int i = 0; i < owners.length && i < changes.length; i++) {
                    if (owners[i] >= 0 && owners[i] < carried.length) {
                        carried[owners[i]] += changes[i];
                    }
                }
                count = 0;
            }
            if (count >= 0 && count < owners.length && count < changes.length) {
                owners[count] = owner;
                changes[count] = change;
                count++;
            }
        }

        int sumOf(int owner) {
            int sum = owner >= 0 && owner < carried.length ? carried[owner] : 0;
            for (int i = 0; i < count && i < owners.length && i < changes.length; i++) {
                if (owners[i] == owner) {
                    sum += changes[i];
                }
            }
            return sum;
        }
    }

    /** Holders and banks, and what goes on between them. */
    private static final class Books {
        final Central central = new Central();
        final Log log = new Log();
        private final Holder[] holders = new Holder[HOLDERS];
        private final Bank[] banks = new Bank[BANKS];
        /** These stand where there is no such holder or bank, so that no reference is ever null. */
        private final Holder nobody = new Holder();
        private final Bank noBank = new Bank();

        Books() {
            for (int i = 0; i < holders.length; i++) {
                holders[i] = new Holder();
            }
            for (int i = 0; i < banks.length; i++) {
                banks[i] = new Bank();
            }
        }

        Holder holder(int number) {
            Holder found = number >= 0 && number < holders.length ? holders[number] : nobody;
            return found == null ? nobody : found;
        }

        Bank bank(int number) {
            Bank found = number >= 0 && number < banks.length ? banks[number] : noBank;
            return found == null ? noBank : found;
        }

        /** Every change of an account goes through here, so that the log has it as well. */
        void change(int holder, int amount) {
            holder(holder).balance += amount;
            log.note(holder, amount);
        }

        void noteCentral(int change) {
            log.note(Log.CENTRAL_LINE, change);
        }

        int accountsAt(int bank) {
            int all = 0;
            for (int i = 0; i < HOLDERS; i++) {
                all += holder(i).bank == bank ? 1 : 0;
            }
            return all;
        }

        int inAccountsAt(int bank) {
            int all = 0;
            for (int i = 0; i < HOLDERS; i++) {
                Holder holder = holder(i);
                all += holder.bank == bank ? holder.balance : 0;
            }
            return all;
        }

        int goodNotesOfHolders() {
            int all = 0;
            for (int i = 0; i < HOLDERS; i++) {
                Holder holder = holder(i);
                all += holder.notes - holder.forged;
            }
            return all;
        }

        int banksThatStand() {
            int all = 0;
            for (int i = 0; i < BANKS; i++) {
                all += bank(i).hasFailed ? 0 : 1;
            }
            return all;
        }

        private int lowestBankThatStands() {
            for (int i = 0; i < BANKS; i++) {
                if (!bank(i).hasFailed) {
                    return i;
                }
            }
            return NONE;
        }

        int bankThatLacksMost() {
            int worst = NONE;
            int most = 0;
            for (int i = 0; i < BANKS; i++) {
                int lacks = bank(i).lacks();
                if (lacks > most) {
                    worst = i;
                    most = lacks;
                }
            }
            return worst;
        }

        /** Whether the holder of a loan can give so much to what has the loan; without an account it has 0 free. */
        boolean canPayOwner(Loan loan, int amount) {
            Holder payer = holder(loan.holder);
            return amount <= payer.free() && (payer.bank == loan.owner || amount <= bank(payer.bank).reserves);
        }

        void payOwner(Loan loan, int amount) {
            Holder payer = holder(loan.holder);
            change(loan.holder, -amount);
            if (payer.bank == loan.owner) {
                return;
            }
            bank(payer.bank).reserves -= amount;
            if (loan.owner != CENTRAL) {
                bank(loan.owner).reserves += amount;
            }
        }

        /** Pays out the accounts of a bank that has failed, out of what it had less what the central bank got. */
        int payOut(int failed, int toPayOut) {
            int sure = 0;
            int above = 0;
            for (int i = 0; i < HOLDERS; i++) {
                Holder holder = holder(i);
                if (holder.bank == failed) {
                    sure += holder.sureOfAccount();
                    above += holder.balance - holder.sureOfAccount();
                }
            }
            int left = Math.max(0, toPayOut - sure);
            int heir = lowestBankThatStands();
            int all = 0;
            for (int i = 0; i < HOLDERS; i++) {
                Holder holder = holder(i);
                if (holder.bank == failed) {
                    int part = holder.balance - holder.sureOfAccount();
                    int paid = holder.sureOfAccount() + Math.min(part, share(part, left, above));
                    all += paid;
                    change(i, (heir == NONE ? 0 : paid) - holder.balance);
                    holder.takeNotes(heir == NONE ? paid : 0, 0);
                    holder.bank = heir;
                }
            }
            if (heir != NONE) {
                bank(heir).reserves += all;
            }
            return all;
        }
    }

    private static final class Payment {
        int from;
        int to;
        /** The banks of both; they stay, since while a payment waits neither account can be closed or moved. */
        int fromBank;
        int toBank;
        int amount;
        int state;
        boolean isChosen;
        /** The day of the goods that are paid; NONE if it is for none. */
        int boughtOn;
        int doneOn;

        int netFor(int bank) {
            return (toBank == bank ? amount : 0) - (fromBank == bank ? amount : 0);
        }
    }

    private static final class Payments {
        int count;
        private final Payment[] rows = new Payment[MOST_PAYMENTS];
        private final Payment noPayment = new Payment();

        Payments() {
            for (int i = 0; i < rows.length; i++) {
                rows[i] = new Payment();
            }
        }

        Payment at(int number) {
            Payment found = number >= 0 && number < rows.length ? rows[number] : noPayment;
            return found == null ? noPayment : found;
        }

        boolean isFull() {
            return count >= MOST_PAYMENTS;
        }

        int tell(Books books, int from, int to, int amount, int boughtOn, int today) {
            int number = count;
            count++;
            Payment told = at(number);
            told.from = from;
            told.to = to;
            told.fromBank = books.holder(from).bank;
            told.toBank = books.holder(to).bank;
            told.amount = amount;
            told.boughtOn = boughtOn;
            told.state = WAITS;
            books.holder(from).blocked += amount;
            if (told.fromBank == told.toBank) {
                finish(books, told, today);
            }
            return number;
        }

        private void finish(Books books, Payment payment, int today) {
            books.holder(payment.from).blocked -= payment.amount;
            books.change(payment.from, -payment.amount);
            books.change(payment.to, payment.amount);
            payment.state = DONE;
            payment.doneOn = today;
        }

        int clearAll(Books books, int today) {
            chooseAllThatWait(books);
            for (int i = 0; i < count; i++) {
                int bank = books.bankThatLacksMost();
                if (bank == NONE) {
                    break;
                }
                leaveOutLatestOf(books, bank);
            }
            return finishChosen(books, today);
        }

        private void chooseAllThatWait(Books books) {
            for (int i = 0; i < BANKS; i++) {
                books.bank(i).net = 0;
            }
            for (int i = 0; i < count; i++) {
                Payment payment = at(i);
                payment.isChosen = payment.state == WAITS;
                if (payment.isChosen) {
                    books.bank(payment.fromBank).net -= payment.amount;
                    books.bank(payment.toBank).net += payment.amount;
                }
            }
        }

        private void leaveOutLatestOf(Books books, int bank) {
            for (int i = count - 1; i >= 0; i--) {
                Payment payment = at(i);
                if (payment.isChosen && payment.fromBank == bank) {
                    payment.isChosen = false;
                    books.bank(payment.fromBank).net += payment.amount;
                    books.bank(payment.toBank).net -= payment.amount;
                    return;
                }
            }
        }

        private int finishChosen(Books books, int today) {
            for (int i = 0; i < BANKS; i++) {
                Bank bank = books.bank(i);
                bank.reserves += bank.net;
            }
            int done = 0;
            for (int i = 0; i < count; i++) {
                Payment payment = at(i);
                if (payment.isChosen) {
                    finish(books, payment, today);
                    done++;
                }
            }
            return done;
        }

        void takeBack(Books books, int bank) {
            for (int i = 0; i < count; i++) {
                Payment payment = at(i);
                if (payment.state == WAITS && (payment.fromBank == bank || payment.toBank == bank)) {
                    books.holder(payment.from).blocked -= payment.amount;
                    payment.state = TAKEN;
                }
            }
        }

        boolean oneWaitsTo(int holder) {
            for (int i = 0; i < count; i++) {
                Payment payment = at(i);
                if (payment.state == WAITS && payment.to == holder) {
                    return true;
                }
            }
            return false;
        }

        int waitingNet(int bank) {
            int net = 0;
            for (int i = 0; i < count; i++) {
                Payment payment = at(i);
                net += payment.state == WAITS ? payment.netFor(bank) : 0;
            }
            return net;
        }

        int goodsBoughtOn(int day, boolean revised) {
            int sum = 0;
            for (int i = 0; i < count; i++) {
                Payment payment = at(i);
                boolean counts = payment.state == DONE && (revised || payment.doneOn == day);
                sum += counts && payment.boughtOn == day ? payment.amount : 0;
            }
            return sum;
        }
    }

    private static final class Loan {
        int holder;
        int owner;
        int left;
        int rate;
        int overdue;
    }

    private static final class Loans {
        int count;
        private final Loan[] rows = new Loan[MOST_LOANS];
        private final Loan noLoan = new Loan();

        Loans() {
            for (int i = 0; i < rows.length; i++) {
                rows[i] = new Loan();
            }
        }

        Loan at(int number) {
            Loan found = number >= 0 && number < rows.length ? rows[number] : noLoan;
            return found == null ? noLoan : found;
        }

        boolean isFull() {
            return count >= MOST_LOANS;
        }

        int give(int bank, int holder, int amount, int rate) {
            int number = count;
            count++;
            Loan given = at(number);
            given.holder = holder;
            given.owner = bank;
            given.left = amount;
            given.rate = rate;
            return number;
        }

        int leftOf(int owner) {
            int all = 0;
            for (int i = 0; i < count; i++) {
                Loan loan = at(i);
                all += loan.owner == owner ? loan.left : 0;
            }
            return all;
        }

        void moveToCentral(int bank) {
            for (int i = 0; i < count; i++) {
                Loan loan = at(i);
                if (loan.owner == bank) {
                    loan.owner = CENTRAL;
                }
            }
        }
    }

    private static final class Bid {
        int bank;
        int price;
        int number;
        int got;
        boolean wasTried;

        void become(Bid other) {
            bank = other.bank;
            price = other.price;
            number = other.number;
        }
    }

    /** The bids for bonds, and who has how many bonds of which auction. */
    private static final class Bonds {
        private final Bid[] bids = new Bid[MOST_BIDS];
        private final Bid noBid = new Bid();
        private int bidCount;
        private int auctionCount;
        private final int[] dueOn = new int[MOST_AUCTIONS];
        /** By auctions, and in each by owners. */
        private final int[] numbers = new int[MOST_AUCTIONS * OWNERS];

        Bonds() {
            for (int i = 0; i < bids.length; i++) {
                bids[i] = new Bid();
            }
        }

        private Bid bidAt(int place) {
            Bid found = place >= 0 && place < bids.length ? bids[place] : noBid;
            return found == null ? noBid : found;
        }

        boolean bidsAreFull() {
            return bidCount >= MOST_BIDS;
        }

        boolean auctionsAreFull() {
            return auctionCount >= MOST_AUCTIONS;
        }

        int addBid(int bank, int price, int number) {
            Bid told = bidAt(bidCount);
            told.bank = bank;
            told.price = price;
            told.number = number;
            bidCount++;
            return bidCount;
        }

        void dropBids(int bank) {
            int kept = 0;
            for (int i = 0; i < bidCount; i++) {
                Bid bid = bidAt(i);
                if (bid.bank != bank) {
                    bidAt(kept).become(bid);
                    kept++;
                }
            }
            bidCount = kept;
        }

        /** Says of each bid how many bonds it gets; answers the least price that was taken, or NONE. */
        int takeBids(Books books, int number) {
            for (int i = 0; i < BANKS; i++) {
                books.bank(i).promised = 0;
            }
            for (int i = 0; i < bidCount; i++) {
                bidAt(i).wasTried = false;
                bidAt(i).got = 0;
            }
            int least = NONE;
            int left = number;
            for (int i = 0; i < bidCount && left > 0; i++) {
                Bid bid = highestBidNotTried();
                bid.wasTried = true;
                int wanted = Math.min(bid.number, left);
                int cost = percentRoundedUp(wanted, bid.price);
                Bank bank = books.bank(bid.bank);
                if (bank.reserves >= bank.promised + cost) {
                    bank.promised += cost;
                    bid.got = wanted;
                    left -= wanted;
                    least = bid.price;
                }
            }
            return least;
        }

        private Bid highestBidNotTried() {
            Bid best = noBid;
            for (int i = 0; i < bidCount; i++) {
                Bid bid = bidAt(i);
                if (!bid.wasTried && bid.price > best.price) {
                    best = bid;
                }
            }
            return best;
        }

        /** What the bids got is theirs at this price; it is an auction also when they got nothing. */
        void sell(Books books, int price, int due) {
            for (int i = 0; i < bidCount; i++) {
                Bid bid = bidAt(i);
                if (bid.got > 0) {
                    int cost = percentRoundedUp(bid.got, price);
                    books.bank(bid.bank).reserves -= cost;
                    books.central.treasury += cost;
                    add(bid.bank, auctionCount, bid.got);
                }
            }
            if (auctionCount >= 0 && auctionCount < dueOn.length) {
                dueOn[auctionCount] = due;
            }
            auctionCount++;
            bidCount = 0;
        }

        private int held(int owner, int auction) {
            int place = auction * OWNERS + owner;
            return place >= 0 && place < numbers.length ? numbers[place] : 0;
        }

        private void add(int owner, int auction, int number) {
            int place = auction * OWNERS + owner;
            if (place >= 0 && place < numbers.length) {
                numbers[place] += number;
            }
        }

        int of(int owner) {
            int all = 0;
            for (int i = 0; i < auctionCount; i++) {
                all += held(owner, i);
            }
            return all;
        }

        /** Those of earlier auctions go first. */
        void moveToCentral(int bank, int number) {
            int left = number;
            for (int i = 0; i < auctionCount; i++) {
                int moved = Math.min(left, held(bank, i));
                add(bank, i, -moved);
                add(CENTRAL, i, moved);
                left -= moved;
            }
        }

        void payDue(Books books, int today) {
            for (int i = 0; i < auctionCount && i < dueOn.length; i++) {
                if (dueOn[i] <= today) {
                    payBondsOf(books, i, CENTRAL);
                    for (int bank = 0; bank < BANKS; bank++) {
                        payBondsOf(books, i, bank);
                    }
                }
            }
        }

        private void payBondsOf(Books books, int auction, int owner) {
            int paid = Math.min(books.central.treasury, held(owner, auction));
            books.central.treasury -= paid;
            add(owner, auction, -paid);
            if (owner != CENTRAL) {
                books.bank(owner).reserves += paid;
            }
        }
    }
}
