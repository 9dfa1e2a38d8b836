import java.util.Random;

/** Texts by a seed, most of them sound, some of them with a fault anywhere. */
final class Texts {
    private final Random random;

    Texts(Random random) {
        this.random = random;
    }

    int below(int n) {
        return random.nextInt(n);
    }

    private String blank() {
        int kind = below(12);
        return kind == 0 ? "\n" : kind == 1 ? "  " : " ";
    }

    private String gap() {
        int kind = below(12);
        return kind == 0 ? "\n" : kind == 1 ? " " : "";
    }

    String of(int sort) {
        String text = sort == 0 ? parish() : sort == 1 ? years() : log();
        return below(6) == 0 ? spoiled(text) : text;
    }

    private int goods() {
        int kind = below(8);
        return kind == 0 ? 0 : kind == 1 ? 99 : kind <= 4 ? below(12) : below(100);
    }

    String parish() {
        StringBuilder s = new StringBuilder();
        int houses = below(10) == 0 ? below(2) : 2 + below(6);
        if (below(5) > 0) {
            s.append("quota").append(blank()).append(below(3) == 0 ? below(20) : below(100)).append(";").append(gap());
        }
        if (below(5) > 0) {
            s.append("price").append(blank()).append(below(2) == 0 ? below(15) : below(100)).append(gap()).append(";");
        }
        int same = goods();
        for (int h = 0; h < houses; h++) {
            s.append("house").append(blank()).append(below(3) == 0 ? same : goods()).append(blank()).append(below(10)).append(";").append(gap());
        }
        int rules = houses < 2 ? 0 : below(3) == 0 ? 0 : below(11);
        for (int r = 0; r < rules; r++) {
            rule(s, houses);
        }
        for (int k = houses == 0 ? 0 : below(4); k > 1; k--) {
            s.append("office").append(blank()).append(below(houses)).append(";").append(gap());
        }
        return s.toString();
    }

    private void rule(StringBuilder s, int houses) {
        int house = below(houses);
        int patron = (house + 1 + below(houses - 1)) % houses;
        if (houses < 3 || below(5) < 3) {
            s.append("tie").append(blank()).append(house).append(blank()).append(patron).append(";").append(gap());
            return;
        }
        int second = below(houses);
        while (second == house || second == patron) {
            second = below(houses);
        }
        s.append("pact").append(blank()).append(house).append(blank()).append(patron).append(blank()).append(second).append(";").append(gap());
    }

    String years() {
        StringBuilder s = new StringBuilder();
        for (int n = below(3) == 0 ? below(6) : below(41); n > 0; n--) {
            int kind = below(10);
            if (kind <= 4) {
                s.append("year");
            } else if (kind <= 6) {
                s.append("buy").append(blank()).append(below(below(4) == 0 ? 7 : 3));
            } else if (kind == 7) {
                s.append("lose").append(blank()).append(below(below(4) == 0 ? 7 : 3));
            } else if (kind == 8) {
                s.append(below(2) == 0 ? "quota" : "price").append(blank()).append(below(4) == 0 ? 10 : below(100));
            } else {
                s.append("cut").append(blank()).append(below(10));
            }
            s.append(gap()).append(";").append(gap());
        }
        return s.toString();
    }

    String log() {
        StringBuilder s = new StringBuilder();
        for (int n = below(5) == 0 ? below(9) : below(3); n > 0; n--) {
            s.append("paid").append(blank()).append(below(below(5) == 0 ? 7 : 3)).append(blank())
                .append(below(3) == 0 ? 0 : below(below(3) == 0 ? 100 : 12)).append(";").append(gap());
        }
        return s.toString();
    }

    private String spoiled(String text) {
        int at = below(text.length() + 1);
        String[] bits = {"0", "7", "10", "5", "x", "@", ";", " ", "\u00e9", "\u0000", "tie 1 1;", "house 3 3;", "year;",
            "cut 3;", "paid 1 1;", "A", "\t", "quota 100;", "quota5 ;", "office 6;"};
        switch (below(3)) {
            case 0:
                return text.substring(0, at);
            case 1:
                return at == text.length() ? text : text.substring(0, at) + text.substring(at + 1);
            default:
                return text.substring(0, at) + bits[below(bits.length)] + text.substring(at);
        }
    }
}
