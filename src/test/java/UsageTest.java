/** The example of README.md, call by call, with the answers that it tells. */
public final class UsageTest {
    private UsageTest() {
    }

    public static void main(String[] args) {
        WindyTours tours = new WindyTours();
        tours.append(0x6e657477, 0x6f726b20, 0x3220393b, 0x65646765, 0x20302031);
        tours.append(0x20352037, 0x20343b64, 0x65706f74, 0x20303b20, 0x20202020);
        Due.is("load", tours.load(36), 1);
        int tour = tours.openTour(0);
        Due.is("openTour", tour, 0);
        Due.is("build", tours.build(), 1);
        Due.is("tourCost", tours.tourCost(tour), 12);
        Due.is("improve", tours.improve(10), 0);
        Due.is("undo", tours.undo(), 3);
        Due.end();
    }
}
