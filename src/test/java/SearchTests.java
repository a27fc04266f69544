/**
 * Journeys, picked out of millions, on which a search goes wrong that takes one way in which all things are for another.
 * What is due was found by a search that remembers nothing.
 */
public final class SearchTests extends Checks {
    private static void plans() {
        planned(of("bottom 3 1 1 1 0 2;bottom 0 0 1 1 0 2;top 2 1 1 1 0 2;top 1 2 1 1 0 2;top 2 1 1 1 0 2;"
            + "bottom 2 2 1 1 0 2;"
            + "day 2 2;day 0 0;day 3 0;day 3 0;day 1 0;day 3 0;day 0 0;day 3 0;"),
            63, 70, "350" + "210" + "400" + "250" + "210" + "400" + "310" + "400");
        planned(of("top 2 2 1 1 0 2;bottom 3 1 1 1 0 2 late;top 1 1 1 1 0 2;bottom 2 0 1 1 0 2;"
            + "bottom 3 2 1 1 0 2 late;top 1 2 1 1 0 1 late;"
            + "day 2 0;day 3 0;day 2 2;day 1 0;day 3 0;day 3 0;day 1 1;day 3 0;apart 2 3;"),
            63, 149, "010" + "530" + "040" + "210" + "010" + "240" + "040" + "030");
        planned(of("top 3 0 1 1 0 2;top 2 1 1 1 0 2;top 0 2 1 1 0 2;bottom 3 0 1 1 0 2;bottom 3 2 1 1 0 2;"
            + "bottom 0 0 1 1 0 2;"
            + "day 2 0;day 1 0;day 0 0;day 1 0;day 2 0;day 2 0;day 1 0;apart 5 1;apart 5 4;"),
            63, 50, "030" + "140" + "250" + "050" + "140" + "230" + "140");
        planned(of("bottom 0 1 1 1 0 2 late;bottom 3 1 1 1 0 2 late;bottom 2 0 1 1 0 2 late;top 3 2 1 1 0 2;"
            + "top 1 2 1 1 0 2 late;top 3 2 1 1 0 2 late;"
            + "day 0 0;day 2 0;day 3 0;day 3 0;day 3 0;day 0 0;day 4 0;day 0 1;"),
            63, 134, "300" + "410" + "520" + "300" + "410" + "420" + "520" + "510");
        planned(of("top 0 1 1 1 0 2;top 2 1 1 1 0 1;bottom 1 1 1 1 0 2;bottom 1 2 1 1 0 2;top 0 2 1 1 0 1;"
            + "day 1 0;day 0 1;day 0 0;day 1 1;day 1 0;apart 4 0;"),
            31, 22, "120" + "030" + "420" + "030" + "030");
        planned(of("bottom 1 2 1 1 0 2 late;bottom 0 1 1 1 0 2 late;top 3 0 1 1 0 2 late;top 0 1 1 1 0 2 late;"
            + "bottom 0 1 1 1 0 1 late;"
            + "day 1 0;day 0 1;day 1 0;day 0 1 wash;day 1 0;apart 1 4;"),
            31, 6, "200" + "310" + "240" + "310" + "300");
        planned(of("bottom 3 0 1 1 0 2 late;bottom 0 1 1 1 0 2 late;top 0 1 1 1 0 2;top 2 2 1 1 0 2 late;"
            + "day 0 0;day 1 0;day 1 1;day 0 0;day 0 0;apart 0 1;"),
            15, 2, "310" + "200" + "310" + "200" + "200");
        planned(of("bottom 2 2 1 1 0 2 late;top 1 1 1 1 0 2 late;top 0 1 1 1 0 2 late;bottom 2 0 1 1 0 1 late;"
            + "bottom 1 2 1 1 0 2 late;top 3 0 1 1 0 2 late;"
            + "day 3 0;day 0 0;day 0 0 wash;day 2 0 wash;day 1 0 wash;day 2 0 wash;day 4 0;day 1 0;apart 1 2;"),
            63, 243, "100" + "230" + "100" + "101" + "240" + "100" + "530" + "100");
        planned(of("top 3 2 1 1 0 2 late;top 3 0 1 1 0 2 late;bottom 1 2 1 1 0 2 late;bottom 0 2 1 1 0 2 late;"
            + "top 3 0 1 1 0 2 late;top 2 1 1 1 0 2 late;"
            + "day 2 0 wash;day 2 0;day 2 2 wash;day 1 0 wash;day 0 1 wash;day 0 1;day 3 0 wash;"),
            63, 124, "021" + "130" + "020" + "131" + "020" + "530" + "020");
        planned(of("top 0 2 1 1 0 1;bottom 2 0 1 1 0 2 late;bottom 1 0 1 1 0 1 late;bottom 3 2 1 1 0 2 late;"
            + "top 0 0 1 1 0 1 late;top 1 1 1 1 0 1 late;"
            + "day 1 0;day 0 0 wash;day 2 0 wash;day 2 0 wash;day 2 1;day 1 0;day 0 0 wash;"),
            63, 98, "010" + "411" + "031" + "011" + "030" + "410" + "520");
    }

    private static void again() {
        due("again", of("bottom 1 0 1 1 0 1 late;top 1 2 1 1 0 2 late;top 0 0 1 1 0 2 late;bottom 3 1 1 1 0 2 late;"
            + "bottom 2 1 1 1 0 2 late;top 1 2 1 1 0 2;"
            + "day 0 0;day 0 1 wash;day 1 0;day 0 0 wash;day 0 0;day 0 0 wash;apart 2 4;").again(47), 0);
        due("again", of("top 2 0 1 1 0 2 late;top 0 1 1 1 0 2 late;bottom 3 1 1 1 0 2 late;bottom 2 1 1 1 0 1 late;"
            + "top 2 0 1 1 0 1 late;"
            + "day 2 1;day 1 0 wash;day 4 0 wash;day 0 1 wash;day 3 0;day 1 0 wash;day 0 0 wash;day 3 0;").again(31), 0);
        due("again", of("bottom 3 0 1 1 0 1 late;top 0 1 1 1 0 1 late;top 0 0 1 1 0 2 late;top 0 2 1 1 0 2 late;"
            + "bottom 2 1 1 1 0 2 late;"
            + "day 1 0 wash;day 1 0 wash;day 0 0;day 0 0 wash;day 0 0;apart 3 1;").again(31), 1);
        due("again", of("bottom 2 2 1 1 0 2 late;top 3 1 1 1 0 2 late;bottom 1 2 1 1 0 2 late;top 3 2 1 1 0 2 late;"
            + "bottom 3 2 1 1 0 2;"
            + "day 1 2;day 2 0 wash;").again(31), 2);
    }

    public static void main(String[] args) {
        plans();
        again();
        end("searches");
    }
}
