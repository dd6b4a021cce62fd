/** One call with its arguments, to be made on the class and on the model alike. */
record Call(String name, int a, int b) {
    /** A call's answer is an int or a long; either way it is told as a long. */
    long on(RedBlackMap map) {
        return switch (name) {
            case "put" -> map.put(a, b);
            case "remove" -> map.remove(a);
            case "get" -> map.get(a);
            case "place" -> map.place(a);
            case "count" -> map.count(a, b);
            case "sum" -> map.sum(a, b);
            case "removeAll" -> map.removeAll(a, b);
            case "seek" -> map.seek(a);
            case "jump" -> map.jump(a);
            case "next" -> map.next();
            case "back" -> map.back();
            case "key" -> map.key();
            case "set" -> map.set(a);
            default -> throw new IllegalArgumentException(name);
        };
    }

    long on(Model model) {
        return switch (name) {
            case "put" -> model.put(a, b);
            case "remove" -> model.remove(a);
            case "get" -> model.get(a);
            case "place" -> model.place(a);
            case "count" -> model.count(a, b);
            case "sum" -> model.sum(a, b);
            case "removeAll" -> model.removeAll(a, b);
            case "seek" -> model.seek(a);
            case "jump" -> model.jump(a);
            case "next" -> model.next();
            case "back" -> model.back();
            case "key" -> model.key();
            case "set" -> model.set(a);
            default -> throw new IllegalArgumentException(name);
        };
    }

    @Override
    public String toString() {
        return switch (name) {
            case "put", "count", "sum", "removeAll" -> name + "(" + a + ", " + b + ")";
            case "next", "back", "key" -> name + "()";
            default -> name + "(" + a + ")";
        };
    }
}
