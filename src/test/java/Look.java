/** All that can be looked at in a town, as far as a call may change it. */
final class Look {
    private Look() {
    }

    static String all(SevenTown town) {
        StringBuilder all = new StringBuilder();
        for (int i = 0; i < town.count(0); i++) {
            all.append(Due.knows(town, i)).append(' ').append(town.of(i, 3)).append(' ');
            all.append(town.of(i, 4)).append(' ').append(town.value(i)).append(' ');
        }
        for (int what = 0; what < 5; what++) {
            all.append(town.count(what)).append(' ');
        }
        for (int rule = 0; rule < town.count(1); rule++) {
            all.append(town.comes(rule, 1)).append(' ');
        }
        return all.append(town.fault(0)).append(' ').append(town.fault(1)).toString();
    }
}
