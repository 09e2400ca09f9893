/** Benches that tests begin with. */
final class Given {
    private Given() {
    }

    /** Each point by its x, y and colour. */
    static YesPlanes points(int... xyColour) {
        YesPlanes x = new YesPlanes();
        for (int i = 0; i + 2 < xyColour.length; i += 3) {
            x.point(xyColour[i], xyColour[i + 1], xyColour[i + 2]);
        }
        return x;
    }
}
