public final class Promise12IdOfTest {
    public static void main(String[] args) {
        ThreadedArchive x = new ThreadedArchive();
        Check.message(x, "i:63");
        Check.message(x, "i:0");
        Check.message(x, "i:7");
        Check.due("idOf(0)", x.idOf(0), 63);
        Check.due("idOf(1)", x.idOf(1), 0);
        Check.due("idOf(2)", x.idOf(2), 7);
        int[] unknown = {-1, 3, 11, 12, 63, Integer.MIN_VALUE, Integer.MAX_VALUE};
        for (int number : unknown) {
            Check.due("idOf(" + number + ")", x.idOf(number), ThreadedArchive.REFUSED);
        }
        x.drop(1);
        Check.due("idOf of a dropped one", x.idOf(1), ThreadedArchive.REFUSED);
        Check.message(x, "i:8");
        Check.due("idOf of a number given again", x.idOf(1), 8);
        for (int n = 3; n < 12; n++) {
            Check.message(x, "i:" + (n + 20));
        }
        Check.due("idOf(11)", x.idOf(11), 31);
        Check.end();
    }
}
