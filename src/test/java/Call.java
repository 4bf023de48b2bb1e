/** One call of the public face as data: its name and its arguments; those that it does not take are left unread. */
record Call(String name, int... arguments) {
    int argument(int place) {
        return place < arguments.length ? arguments[place] : 0;
    }

    /** The same call with another argument at this place. */
    Call with(int place, int argument) {
        int[] changed = arguments.clone();
        changed[place] = argument;
        return new Call(name, changed);
    }

    /** Makes the call and tells its answer; clearPlan is told as 0. */
    int on(FusedPlans x) {
        int a = argument(0);
        int b = argument(1);
        int c = argument(2);
        int d = argument(3);
        switch (name) {
            case "insert": return x.insert(a, b, c, d);
            case "empty": return x.empty(a);
            case "scan": return x.scan(a);
            case "filter": return x.filter(a, b, c, d);
            case "extend": return x.extend(a, b, c, d);
            case "pick": return x.pick(a, b, c, d);
            case "join": return x.join(a, b, c, d);
            case "semi": return x.semi(a, b, c, d);
            case "anti": return x.anti(a, b, c, d);
            case "group": return x.group(a, b, c, d);
            case "distinct": return x.distinct(a);
            case "union": return x.union(a, b);
            case "clearPlan": x.clearPlan(); return 0;
            case "run": return x.run(a);
            case "width": return x.width();
            case "cell": return x.cell(a, b);
            default: throw new IllegalArgumentException(name);
        }
    }

    @Override
    public String toString() {
        StringBuilder text = new StringBuilder(name).append("(");
        for (int place = 0; place < arguments.length; place++) {
            text.append(place == 0 ? "" : ", ").append(arguments[place]);
        }
        return text.append(")").toString();
    }
}
