/** The draws of YEARS as the document tells them, apart from the class. */
final class Dice {
    private long x;

    Dice(long seed) {
        x = seed;
    }

    int below(int j) {
        x = x * 6364136223846793005L + 1442695040888963407L;
        return (int) ((x >>> 33) % j);
    }

    /** YEARS played by hand: the same but for ACTS and STATUS. */
    void years(WeatherMarbles object, int n, int spills) {
        int marbles = object.count(0);
        for (int d = 0; d < n; d++) {
            int m = below(marbles);
            int o = below(marbles);
            int power = below(9) + 1;
            int against = below(9) + 1;
            object.play(m, power, o, against);
            if (below(10) < spills) {
                object.chip(below(marbles));
            }
            object.days(1);
        }
    }
}
