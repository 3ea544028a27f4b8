/** States that an object of 80 blocks can be in, each reached by less than 100 calls. */
enum State {
    NEW, LOOKED_AT, ALL_ROWS_TAKEN, EMPTY_STEP, STEP, FULL_STEP, MOST_HELD, HELD, TWENTY_HELD, COMMITTED, CUT_IS_NEAR,
    POWER_CAME_BACK, WENT_BEFORE_IT_COUNTED, WENT_BEHIND_THAT, WENT_AT_THE_LAST, WENT_AGAIN;

    boolean isOn() {
        return compareTo(WENT_BEFORE_IT_COUNTED) < 0;
    }

    boolean inStep() {
        return this == EMPTY_STEP || this == STEP || this == FULL_STEP || this == MOST_HELD;
    }

    BlockVault make() {
        return isOn() ? makeOn() : makeOff();
    }

    private BlockVault makeOn() {
        BlockVault x = new BlockVault(80);
        switch (this) {
            case LOOKED_AT -> Due.look(x, 3, 5);
            case ALL_ROWS_TAKEN -> Due.look(x, 0, 40);
            case EMPTY_STEP -> x.begin();
            case STEP -> step(x, 0, 3);
            case FULL_STEP -> step(x, 0, 10);
            case MOST_HELD -> {
                Due.change(x, 0, 20, 1);
                step(x, 20, 10);
            }
            case HELD -> Due.change(x, 2, 5, 1);
            case TWENTY_HELD -> Due.change(x, 0, 20, 1);
            case COMMITTED -> {
                Due.change(x, 0, 5, 1);
                x.flush();
            }
            case CUT_IS_NEAR -> {
                Due.change(x, 0, 2, 1);
                x.cut(1);
            }
            case POWER_CAME_BACK -> {
                x = Due.wentIn(3, 5);
                x.power(20);
            }
            default -> {
            }
        }
        return x;
    }

    private BlockVault makeOff() {
        int[] writes = {3, 4, 7, 4};
        BlockVault x = Due.wentIn(3, writes[ordinal() - WENT_BEFORE_IT_COUNTED.ordinal()]);
        if (this == WENT_AGAIN) {
            x.power(2);
        }
        return x;
    }

    private static void step(BlockVault x, int from, int n) {
        x.begin();
        for (int i = from; i < from + n; i++) {
            x.fill(Due.block(i), 0, 1, 2);
        }
    }
}
