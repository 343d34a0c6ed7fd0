/** All data of an object that can be asked for, as a text. Some 150 calls for five edges. */
final class Shot {
    private Shot() {
    }

    static String of(WindyTours x) {
        StringBuilder all = new StringBuilder();
        all.append(x.nodeCount()).append(' ').append(x.edgeCount()).append(' ').append(x.depotCount()).append(' ');
        all.append(x.tourCount()).append(' ').append(x.oddNodes()).append(' ').append(x.matching()).append(' ');
        for (int edge = 0; edge < x.edgeCount(); edge++) {
            for (int what = 0; what < 5; what++) {
                all.append(x.edge(edge, what)).append(' ');
            }
            all.append(x.serviceCost(2 * edge)).append(' ').append(x.serviceCost(2 * edge + 1)).append(' ');
            all.append(x.tourOf(edge)).append(' ');
        }
        for (int from = 0; from < x.nodeCount(); from++) {
            for (int to = 0; to < x.nodeCount(); to++) {
                all.append(x.distance(from, to)).append(' ');
            }
        }
        for (int tour = 0; tour < x.tourCount(); tour++) {
            all.append(x.loadOf(tour)).append(' ').append(x.tourCost(tour)).append(' ');
        }
        return all.append(x.checksum()).toString();
    }
}
