import java.util.function.IntSupplier;

/** Writes down all that a Newsmint answers: now, and when days go by and all that is hidden is asked for by calls. */
final class Probe {
    private final Newsmint island;
    private final StringBuilder told = new StringBuilder();

    private Probe(Newsmint island) {
        this.island = island;
    }

    /** All that can be asked; it changes nothing. */
    static String seen(Newsmint island) {
        Probe probe = new Probe(island);
        probe.ask();
        return probe.told.toString();
    }

    /** What comes later; it changes the island. */
    static String later(Newsmint island) {
        Probe probe = new Probe(island);
        probe.ask();
        probe.lendAndBid();
        probe.tell(() -> island.day(1));
        probe.ask();
        probe.setAnew();
        probe.tell(() -> island.day(1));
        probe.tell(island::clear);
        probe.ask();
        for (int b = 0; b < 4; b++) {
            int bank = b;
            probe.tell(() -> island.fail(bank));
        }
        probe.ask();
        return probe.told.toString();
    }

    private void tell(IntSupplier call) {
        try {
            told.append(call.getAsInt());
        } catch (RuntimeException e) {
            told.append(e.getClass().getSimpleName());
        }
        told.append(' ');
    }

    private void ask() {
        told.append("\n").append(island.days()).append(' ').append(island.treasury()).append(' ').append(island.owed());
        told.append(' ').append(island.foreign()).append(' ').append(island.central()).append(' ');
        told.append(island.centralAnew()).append(' ').append(island.money()).append(' ');
        for (int h = 0; h < 16; h++) {
            for (int what = 0; what < 8; what++) told.append(island.ofHolder(h, what)).append(' ');
            told.append(island.accountAnew(h)).append(' ');
            if (h > 9) told.append(island.price(h)).append(' ');
        }
        for (int b = 0; b < 4; b++) for (int w = 0; w < 10; w++) told.append(island.ofBank(b, w)).append(' ');
        for (int l = 0; l < 20; l++) if (!askLoan(l)) break;
        for (int p = 0; p <= 200; p++) {
            try {
                told.append(island.payment(p)).append(' ');
            } catch (IndexOutOfBoundsException e) {
                told.append("no payment ").append(p).append(' ');
                break;
            }
        }
        for (int d = 0; d <= island.days(); d++) {
            told.append(island.sales(d, true)).append(' ').append(island.sales(d, false)).append(' ');
        }
    }

    private boolean askLoan(int loan) {
        try {
            for (int what = 0; what < 4; what++) told.append(island.ofLoan(loan, what)).append(' ');
            return true;
        } catch (IndexOutOfBoundsException e) {
            told.append("no loan ").append(loan).append(' ');
            return false;
        }
    }

    /** Asks for the rule of capital, for the bids, and for the rate of foreign money. */
    private void lendAndBid() {
        for (int h = 0; h < 16; h++) {
            int holder = h;
            tell(() -> island.lend(island.ofHolder(holder, 0), holder, 40, 100));
            if (h > 9) tell(() -> island.abroad(holder, 111, true));
        }
        for (int b = 0; b < 4; b++) {
            int bank = b;
            tell(() -> island.endow(bank, 3000));
            tell(() -> island.bid(bank, 50, 1));
        }
        tell(() -> island.auction(10000, 1));
    }

    private void setAnew() {
        tell(() -> island.rules(3, 4, 5));
        tell(() -> island.exchange(77));
        for (int b = 0; b < 4; b++) {
            int bank = b;
            tell(() -> island.limit(bank, 5000));
        }
        for (int h = 0; h < 10; h++) {
            int household = h;
            tell(() -> island.hire(household, 10, 1));
        }
    }
}
