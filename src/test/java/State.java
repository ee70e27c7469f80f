/** All that can be seen of a bench without bringing it to rest, as one text. */
final class State {
    private State() {
    }

    static String of(SequenceBench b) {
        StringBuilder s = new StringBuilder();
        s.append(b.fingerprint()).append(" error ").append(b.errorKind());
        s.append(" time ").append(b.time()).append(" active ").append(b.active());
        s.append(" quiet ").append(b.quiet()).append(" right ").append(b.rightEvents());
        s.append(" cycles ").append(b.cycles()).append(" steps ").append(b.steps());
        for (int step = 0; step < b.steps(); step++) {
            s.append(" step ").append(b.moves(step)).append(' ').append(b.pause(step));
            s.append(' ').append(b.timer(step)).append(' ').append(b.groupOf(step));
            for (int c = 0; c < 6; c++) {
                s.append(' ').append(b.direction(step, c)).append(' ').append(b.clash(step, c));
            }
        }
        for (int c = 0; c < 6; c++) {
            s.append(" cylinder ").append(b.position(c)).append(' ').append(b.isOut(c));
            s.append(' ').append(b.commands(c)).append(' ').append(b.sensor(c, 0));
            s.append(' ').append(b.sensor(c, 1));
            for (int kind = 0; kind < 5; kind++) {
                boolean had = b.setFault(c, kind, true);
                b.setFault(c, kind, had);
                s.append(had ? " 1" : " 0");
            }
        }
        boolean start = b.setStart(true);
        b.setStart(start);
        s.append(" start ").append(start).append(" events ").append(b.events());
        for (int i = 0; i <= 40; i++) {
            s.append(' ').append(b.eventTime(i)).append('/').append(b.eventMove(i));
        }
        return s.toString();
    }
}
