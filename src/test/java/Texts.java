import java.util.Random;

/** Random texts of the three sorts, most of them sound, some spoilt. */
final class Texts {
    private final Random random;

    Texts(Random random) {
        this.random = random;
    }

    String any(int sort) {
        String t = sort == 0 ? city() : sort == 1 ? law() : plan();
        if (random.nextInt(3) == 0) {
            t = blanked(t);
        }
        if (t.length() > 240) {
            t = t.substring(0, 240);
        }
        return t;
    }

    String spoilt(int sort) {
        StringBuilder t = new StringBuilder(any(sort));
        String signs = "scptkomgwabrydn:;?!()[]|&=<>+-*/0123456789 x~";
        for (int n = random.nextInt(3); n >= 0 && t.length() > 0; n--) {
            int at = random.nextInt(t.length());
            char sign = random.nextInt(20) == 0 ? (char) (1 + random.nextInt(255))
                    : signs.charAt(random.nextInt(signs.length()));
            switch (random.nextInt(4)) {
                case 0:
                    t.setCharAt(at, sign);
                    break;
                case 1:
                    t.insert(at, sign);
                    break;
                case 2:
                    t.deleteCharAt(at);
                    break;
                default:
                    t.setLength(at);
                    break;
            }
        }
        return t.length() > 240 ? t.substring(0, 240) : t.toString();
    }

    String noise() {
        String signs = random.nextBoolean() ? "y:!([m=1&|?])+;" : random.nextBoolean() ? "scp;k0123mgwabrto " : "dksr;0123 ";
        StringBuilder t = new StringBuilder();
        for (int n = random.nextInt(24); n > 0; n--) {
            t.append(signs.charAt(random.nextInt(signs.length())));
        }
        return t.toString();
    }

    private String blanked(String t) {
        StringBuilder out = new StringBuilder();
        for (int i = 0; i < t.length(); i++) {
            boolean within = i > 0 && Character.isDigit(t.charAt(i)) && Character.isDigit(t.charAt(i - 1));
            if (!within && random.nextInt(5) == 0) {
                out.append(' ');
            }
            out.append(t.charAt(i));
        }
        return out.append(random.nextInt(3) == 0 ? " " : "").toString();
    }

    String city() {
        int corners = 2 + random.nextInt(4);
        int people = 1 + random.nextInt(6);
        StringBuilder t = new StringBuilder();
        if (random.nextInt(4) > 0) {
            t.append("s");
            item(t, 't', random.nextInt(3) > 0 ? 1 + random.nextInt(14) : 1 + random.nextInt(30), 1);
            item(t, 'c', random.nextInt(3) > 0 ? random.nextInt(20) : random.nextInt(100), 1);
            item(t, 'o', random.nextBoolean() ? 1 + random.nextInt(3) : 1 + random.nextInt(9), 1);
        }
        for (int i = 0; i < corners; i++) {
            t.append(t.length() > 0 ? ";c" : "c");
            item(t, 'k', random.nextInt(4), 4);
            item(t, 's', random.nextInt(4) == 0 ? random.nextInt(3) : random.nextInt(10), 3);
        }
        for (int i = 0; i < people; i++) {
            int from = random.nextInt(corners);
            int to = (from + 1 + random.nextInt(corners - 1)) % corners;
            t.append(";p");
            item(t, 'm', 1 + random.nextInt(3), 3);
            item(t, 'g', random.nextInt(10), 3);
            item(t, 'w', random.nextInt(10), 2);
            item(t, 'a', from, 12);
            item(t, 'b', to, 12);
            item(t, 'r', random.nextInt(2), 2);
        }
        return t.toString();
    }

    private void item(StringBuilder t, char letter, int value, int often) {
        if (random.nextInt(often + 1) > 0) {
            t.append(letter);
            if (value < 10 && random.nextInt(8) == 0) {
                t.append('0');
            }
            t.append(value);
        }
    }

    /** Laws by which one is pulled often, that days stay lively. */
    private String livelyLaw() {
        String[] laws = {"y:40", "y:m*20+s", "y:m=1?40;y:s*2", "y:s+g", "y:d-d/2*2=0?30;y:m*g*4", "y:!(n<2)|w>8?9+s;y:30-w",
            "y:[m+1]*[s+1]*g", "y:m=0&s<5?40;y:g*2"};
        return laws[random.nextInt(laws.length)];
    }

    String law() {
        if (random.nextInt(3) == 0) {
            return livelyLaw();
        }
        StringBuilder t = new StringBuilder();
        for (int n = random.nextInt(3); n >= 0; n--) {
            t.append(t.length() > 0 ? ";y:" : "y:");
            if (n > 0 || random.nextInt(3) == 0) {
                t.append(condition(random.nextInt(3))).append('?');
            }
            t.append(sum(random.nextInt(3)));
        }
        return t.toString();
    }

    private String condition(int deep) {
        StringBuilder t = new StringBuilder(unit(deep));
        while (random.nextInt(3) == 0) {
            t.append(random.nextBoolean() ? '|' : '&').append(unit(deep));
        }
        return t.toString();
    }

    private String unit(int deep) {
        int k = random.nextInt(4);
        if (deep > 0 && k == 0) {
            return "!" + unit(deep - 1);
        }
        if (deep > 0 && k == 1) {
            return "(" + condition(deep - 1) + ")";
        }
        return sum(deep > 0 ? deep - 1 : 0) + "=<>".charAt(random.nextInt(3)) + sum(deep > 0 ? deep - 1 : 0);
    }

    private String sum(int deep) {
        StringBuilder t = new StringBuilder(atom(deep));
        while (random.nextInt(5) < 2) {
            t.append("+-*/".charAt(random.nextInt(4))).append(atom(deep));
        }
        return t.toString();
    }

    private String atom(int deep) {
        if (deep > 0 && random.nextInt(3) == 0) {
            return "[" + sum(deep - 1) + "]";
        }
        if (random.nextInt(3) > 0) {
            return "" + "mgwsnd".charAt(random.nextInt(6));
        }
        return "" + (random.nextInt(6) == 0 ? random.nextInt(10000) : random.nextInt(12));
    }

    String plan() {
        StringBuilder t = new StringBuilder();
        for (int n = random.nextInt(random.nextInt(5) == 0 ? 17 : 8); n >= 0; n--) {
            t.append(t.length() > 0 ? ";" : "");
            switch (random.nextInt(4)) {
                case 0:
                    t.append('d');
                    break;
                case 1:
                    t.append('k').append(random.nextInt(3)).append(random.nextInt(random.nextInt(9) == 0 ? 10 : 4));
                    break;
                case 2:
                    t.append('s').append(random.nextInt(random.nextInt(9) == 0 ? 10 : 3));
                    break;
                default:
                    t.append('r').append(random.nextInt(random.nextInt(9) == 0 ? 10 : 2));
                    break;
            }
        }
        return t.toString();
    }
}
