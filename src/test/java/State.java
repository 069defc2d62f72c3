/** All that can be asked of an object without changing it, as one text: to see that a call changed nothing. */
final class State {
    private State() {
    }

    /** Some eighty calls: an object is used for at most 512. */
    static String of(GroundCourt court) {
        StringBuilder all = new StringBuilder("count");
        for (int what = 0; what <= 10; what++) {
            all.append(' ').append(court.count(what));
        }
        for (int claim = 0; claim < court.count(3); claim++) {
            all.append(" claim ").append(court.count(20 + claim)).append(' ').append(court.pointOf(claim));
            all.append(' ').append(court.can(claim));
        }
        for (int ground = 0; ground < court.count(0); ground++) {
            all.append(" ground ").append(court.price(ground)).append(' ').append(court.stock(ground));
        }
        all.append(" passed");
        for (int what = 0; what < 3; what++) {
            all.append(' ').append(court.passed(what));
        }
        all.append(" now");
        for (int what = 0; what < 6; what++) {
            all.append(' ').append(court.now(what));
        }
        all.append(" together ").append(court.together(0)).append(' ').append(court.together(1));
        return all.toString();
    }

    /** With the place of the latest FAULT, which read() and judge() change. */
    static String andPlace(GroundCourt court) {
        return of(court) + " place " + court.place();
    }
}
