/** Everything that changes can change, as one text. */
final class State {
    private State() {
    }

    static String of(BalloonHarbour h) {
        StringBuilder state = new StringBuilder();
        state.append(h.hour()).append(' ').append(h.bursts()).append(' ').append(h.loaded()).append(' ')
                .append(h.aboard()).append(' ').append(h.dropped()).append(' ').append(h.lost());
        for (int hour = 0; hour < 24; hour++) {
            state.append(' ').append(h.wind(hour));
        }
        for (int pilot = 0; pilot < h.pilotCount(); pilot++) {
            state.append("; pilot");
            for (int hour = 0; hour < 24; hour++) {
                state.append(h.isOnDuty(pilot, hour) ? '1' : '0');
            }
            for (int berth = 0; berth < 10; berth++) {
                state.append(h.isMoored(berth) && h.canCrew(pilot, berth) ? '1' : '0');
            }
        }
        for (int berth = 0; berth < 10; berth++) {
            if (h.isMoored(berth)) {
                state.append("; ").append(berth).append(": ").append(h.lift(berth)).append(' ')
                        .append(h.height(berth)).append(' ').append(h.strain(berth));
                for (int bag = 0; bag < h.bagCount(berth); bag++) {
                    state.append(" +").append(h.bagWeight(berth, bag));
                }
            }
        }
        return state.toString();
    }
}
