/** Makes objects whose companies have just these balances. */
final class Accounts {
    private Accounts() {
    }

    /** The balances must add up to nothing. */
    static WagonClearing with(int... balances) {
        WagonClearing x = new WagonClearing();
        for (int company = 0; company < 8; company++) {
            x.line(company, company + 1, company, 10);
        }
        int[] left = new int[8];
        System.arraycopy(balances, 0, left, 0, balances.length);
        for (int giver = 0; giver < 8; giver++) {
            for (int taker = 0; taker < 8; taker++) {
                int sum = Math.min(Math.max(0, -left[giver]), Math.max(0, left[taker]));
                if (sum > 0) {
                    x.book(taker, taker + 1, sum, giver);
                    left[giver] += sum;
                    left[taker] -= sum;
                }
            }
        }
        for (int company = 0; company < balances.length; company++) {
            if (x.balance(company) != balances[company]) {
                throw new IllegalStateException("balance(" + company + ") is not as it was made");
            }
        }
        return x;
    }
}
