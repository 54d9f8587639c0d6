import java.util.Random;

/** Pictures of up to sixteen lamps on six wires: the class and the model answer alike. */
public final class WidePicturesTest {
    public static void main(String[] args) {
        Check check = new Check("WidePicturesTest");
        int first = args.length > 0 ? Integer.parseInt(args[0]) : 1;
        int last = args.length > 1 ? Integer.parseInt(args[1]) : 16;
        for (int board = first; board <= last; board++) {
            Random r = new Random(board);
            LampWires x = new LampWires();
            Model m = new Model();
            check.due("wires(6)", x.wires(6), m.wires(6));
            check.due("supply(20)", x.supply(20), m.supply(20));
            int unlike = 1 + board % 9;
            while (m.count(1) < 16) {
                int from = r.nextInt(6);
                int to = r.nextInt(6);
                int volts = 1 + r.nextInt(unlike);
                check.due("lamp(" + from + ", " + to + ", " + volts + ")", x.lamp(from, to, volts), m.lamp(from, to, volts));
            }
            String on = "board " + board + ": ";
            check.due(on + "sets()", x.sets(), m.sets());
            for (int n = 0; n <= 16; n++) {
                check.due(on + "shown(" + n + ")", x.shown(n), m.shown(n));
            }
            for (int i = 0; i < 6; i++) {
                int picture = i == 0 ? 65535 : r.nextInt(65536) | r.nextInt(65536);
                check.due(on + "frame(" + picture + ")", x.frame(picture), m.frame(picture));
                for (int k = 0; k <= 16; k++) {
                    check.due(on + "frameTurn(" + picture + ", " + k + ")", x.frameTurn(picture, k), m.frameTurn(picture, k));
                }
            }
        }
        check.finish();
    }
}
