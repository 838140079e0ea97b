/** The example of README.md, call by call: whoever changes it there changes it here. */
public final class ReadmeTest {
    private static final Check check = new Check();

    public static void main(String[] args) {
        SexpMotion x = new SexpMotion();
        check.due("insert(0, 2)", x.insert(0, 2), 1);
        check.due("insert(1, 0)", x.insert(1, 0), 2);
        check.due("insert(2, 3)", x.insert(2, 3), 3);
        check.due("partner(0)", x.partner(0), 2);
        check.due("partner(1)", x.partner(1), -2);
        check.due("depth(1)", x.depth(1), 1);
        check.due("up(1)", x.up(1), 0);
        check.due("units()", x.units(), 2);
        check.due("forward(0)", x.forward(0), 3);
        check.due("forward(2)", x.forward(2), -3);
        check.due("backward(3)", x.backward(3), 0);
        check.due("down(0)", x.down(0), 1);
        check.due("insert(0, 6)", x.insert(0, 6), 4);
        check.due("mode(1)", x.mode(1), 2);
        check.due("partner(1) in the remark", x.partner(1), -2);
        check.due("set(0, 1)", x.set(0, 1), 6);
        check.due("partner(1) after the remark", x.partner(1), 3);
        check.due("delete(1, 2)", x.delete(1, 2), 3);
        check.due("strays()", x.strays(), 1);
        check.due("kindAt(3)", x.kindAt(3), -1);
        check.end();
    }
}
