/** A call as the document writes it, such as "power(2, 6)", so that what a test makes and what it tells are one. */
final class Call {
    private final String name;
    private final int[] numbers;

    Call(String text) {
        int open = text.indexOf('(');
        name = text.substring(0, open);
        String[] parts = text.substring(open + 1, text.length() - 1).split(", ");
        numbers = new int[parts.length];
        for (int i = 0; i < parts.length; i++) {
            numbers[i] = Integer.parseInt(parts[i]);
        }
    }

    int on(FieldTower tower) {
        return numbers.length == 1 ? single(tower, numbers[0]) : pair(tower, numbers[0], numbers[1]);
    }

    private int single(FieldTower tower, int a) {
        return switch (name) {
            case "use" -> tower.use(a);
            case "invert" -> tower.invert(a);
            case "order" -> tower.order(a);
            case "root" -> tower.root(a);
            case "home" -> tower.home(a);
            default -> throw new IllegalArgumentException(name + " of one number");
        };
    }

    private int pair(FieldTower tower, int a, int b) {
        return switch (name) {
            case "add" -> tower.add(a, b);
            case "multiply" -> tower.multiply(a, b);
            case "power" -> tower.power(a, b);
            case "roots" -> tower.roots(a, b);
            case "trace" -> tower.trace(a, b);
            case "logarithm" -> tower.logarithm(a, b);
            default -> throw new IllegalArgumentException(name + " of two numbers");
        };
    }
}
