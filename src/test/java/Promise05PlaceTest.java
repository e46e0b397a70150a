/** Promise 5: the line that is wrong; how many there are if something is open; -1 if nothing is wrong. */
public final class Promise05PlaceTest {
    public static void main(String[] args) {
        LaneDesk desk = new LaneDesk();
        Bench.due("no lines", desk.place(), -1);
        Bench.load(desk, "LANE; LOOP");
        Bench.due("open behind the last line", desk.place(), 2);
        Bench.load(desk, "IF 0; BREAK");
        Bench.due("two are open", desk.place(), 4);
        Bench.load(desk, "END; AGAIN");
        Bench.due("all are closed", desk.place(), -1);
        Bench.load(desk, "AGAIN; NOT 77");
        Bench.due("the first wrong one", desk.place(), 6);
        desk.wipe();
        Bench.due("wiped", desk.place(), -1);
        for (int i = 0; i < 47; i++) {
            desk.add(2, 0, 0, 0);
        }
        desk.add(22, 0, 0, 0);
        Bench.due("open behind line 47", desk.place(), 48);
        Bench.due("and that is 1", desk.check(), 1);
        Bench.end();
    }
}
