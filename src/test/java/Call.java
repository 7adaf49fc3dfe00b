import java.util.function.ToIntFunction;

/** One call of the document's face, with its text for what a test prints. */
record Call(String text, ToIntFunction<GridFileIndex> made) {
    int on(GridFileIndex x) {
        return made.applyAsInt(x);
    }

    private static Call named(String name, ToIntFunction<GridFileIndex> made, int... arguments) {
        StringBuilder text = new StringBuilder(name).append('(');
        for (int i = 0; i < arguments.length; i++) {
            text.append(i == 0 ? "" : ", ").append(arguments[i]);
        }
        return new Call(text.append(')').toString(), made);
    }

    static Call put(int x, int y, int value) {
        return named("put", o -> o.put(x, y, value), x, y, value);
    }

    static Call remove(int x, int y) {
        return named("remove", o -> o.remove(x, y), x, y);
    }

    static Call clear(int low, int high) {
        return named("clear", o -> o.clear(low, high), low, high);
    }

    static Call scatter(int place, int walk, int value) {
        return named("scatter", o -> o.scatter(place, walk, value), place, walk, value);
    }

    static Call move(int from, int to) {
        return named("move", o -> o.move(from, to), from, to);
    }

    static Call size() {
        return named("size", GridFileIndex::size);
    }

    static Call has(int x, int y) {
        return named("has", o -> o.has(x, y), x, y);
    }

    static Call valueAt(int x, int y) {
        return named("valueAt", o -> o.valueAt(x, y), x, y);
    }

    static Call count(int low, int high) {
        return named("count", o -> o.count(low, high), low, high);
    }

    static Call sum(int low, int high) {
        return named("sum", o -> o.sum(low, high), low, high);
    }

    static Call most(int low, int high) {
        return named("most", o -> o.most(low, high), low, high);
    }

    static Call point(int low, int high, int i) {
        return named("point", o -> o.point(low, high, i), low, high, i);
    }

    static Call nearest(int x, int y) {
        return named("nearest", o -> o.nearest(x, y), x, y);
    }

    static Call within(int x, int y, int reach) {
        return named("within", o -> o.within(x, y, reach), x, y, reach);
    }

    static Call closest() {
        return named("closest", GridFileIndex::closest);
    }

    static Call line(int axis, int x) {
        return named("line", o -> o.line(axis, x), axis, x);
    }

    static Call frontier() {
        return named("frontier", GridFileIndex::frontier);
    }
}
