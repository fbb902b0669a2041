/** Makes a call on the class by its name. */
final class Calls {
    private Calls() {
    }

    static final String[] NAMES = {"feed", "beach", "workOf", "at", "work", "razes", "fixes", "pays", "hours",
        "back", "level", "wet", "then", "floods", "dry", "driest", "falls", "keep", "best", "dredge", "round",
        "assessed", "whatWas", "howHigh", "two", "swells", "shares", "weakest", "mean", "low", "sand", "mended",
        "pairs", "turrets", "row", "judge", "clear", "lots", "image", "restore", "count"};

    static int arguments(String name) {
        for (java.lang.reflect.Method method : CastlesAreAssessed.class.getMethods()) {
            if (method.getName().equals(name) && method.getDeclaringClass() == CastlesAreAssessed.class) {
                return method.getParameterCount();
            }
        }
        throw new IllegalArgumentException(name);
    }

    static long of(CastlesAreAssessed x, String name, int... a) {
        return a.length < 2 ? few(x, name, a) : many(x, name, a);
    }

    private static long few(CastlesAreAssessed x, String name, int[] a) {
        switch (name) {
            case "feed": return x.feed(a[0]);
            case "beach": return x.beach();
            case "at": return x.at(a[0]);
            case "razes": return x.razes(a[0]);
            case "fixes": return x.fixes(a[0]);
            case "pays": return x.pays();
            case "hours": return x.hours(a[0]);
            case "back": return x.back();
            case "level": return x.level(a[0]);
            case "wet": return x.wet(a[0]);
            case "floods": return x.floods(a[0]);
            case "dry": return x.dry(a[0]);
            case "driest": return x.driest(a[0]);
            case "falls": return x.falls(a[0]);
            case "dredge": return x.dredge(a[0]);
            case "round": return x.round(a[0]);
            case "assessed": return x.assessed(a[0]);
            case "howHigh": return x.howHigh();
            case "weakest": return x.weakest(a[0]);
            case "mean": return x.mean(a[0]);
            case "low": return x.low();
            case "sand": return x.sand();
            case "pairs": return x.pairs(a[0]);
            case "turrets": return x.turrets(a[0]);
            case "row": return x.row(a[0]);
            case "judge": return x.judge();
            case "clear": return x.clear();
            case "image": return x.image();
            case "restore": return x.restore();
            case "count": return x.count(a[0]);
            default: throw new IllegalArgumentException(name);
        }
    }

    private static long many(CastlesAreAssessed x, String name, int[] a) {
        switch (name) {
            case "workOf": return x.workOf(a[0], a[1]);
            case "work": return x.work(a[0], a[1], a[2]);
            case "then": return x.then(a[0], a[1]);
            case "keep": return x.keep(a[0], a[1], a[2]);
            case "best": return x.best(a[0], a[1], a[2], a[3]);
            case "whatWas": return x.whatWas(a[0], a[1]);
            case "two": return x.two(a[0], a[1]);
            case "swells": return x.swells(a[0], a[1], a[2], a[3]);
            case "shares": return x.shares(a[0], a[1]);
            case "mended": return x.mended(a[0], a[1]);
            case "lots": return x.lots(a[0], a[1], a[2]);
            default: throw new IllegalArgumentException(name);
        }
    }
}
