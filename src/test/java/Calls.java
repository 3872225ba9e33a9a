/** A call of EggsLast by its name, so that tests can draw which one comes next. */
final class Calls {
    static long on(EggsLast x, String name, int... a) {
        switch (name) {
            case "row": return x.row(a[0], a[1], a[2]);
            case "set": return x.set(a[0], a[1], a[2]);
            case "copy": return x.copy(a[0], a[1], a[2], a[3], a[4]);
            case "drop": return x.drop(a[0]);
            case "feed": return x.feed(a[0]);
            case "shop": return x.shop();
            case "fault": return x.fault();
            case "undo": return x.undo();
            case "beeps": return x.beeps(a[0]);
            case "pack": return x.pack(a[0]);
            case "layBy": return x.layBy();
            case "putIn": return x.putIn(a[0], a[1]);
            case "takeOut": return x.takeOut(a[0]);
            case "swap": return x.swap();
            case "thing": return x.thing(a[0], a[1]);
            case "bag": return x.bag(a[0], a[1]);
            case "stand": return x.stand(a[0]);
            case "least": return x.least(a[0]);
            case "torn": return x.torn();
            case "give": return x.give(a[0]);
            case "order": return x.order(a[0], a[1]);
            case "top": return x.top(a[0]);
            case "spare": return x.spare(a[0]);
            case "beside": return x.beside(a[0], a[1]);
            case "even": return x.even();
            case "astray": return x.astray(a[0], a[1]);
            case "heavy": return x.heavy(a[0], a[1], a[2]);
            case "who": return x.who(a[0], a[1], a[2], a[3]);
            case "colds": return x.colds(a[0]);
            case "tears": return x.tears(a[0], a[1], a[2]);
            case "drawn": return x.drawn(a[0], a[1], a[2]);
            case "image": return x.image(a[0]);
            case "restore": return x.restore(a[0]);
            case "kind": return x.kind(a[0]);
            case "as": return x.as(a[0], a[1]);
            case "ask": return x.ask(a[0], a[1]);
            case "trace": return x.trace(a[0]);
            case "count": return x.count(a[0]);
            case "status": return x.status();
            default: throw new IllegalArgumentException(name);
        }
    }

    private Calls() {
    }
}
