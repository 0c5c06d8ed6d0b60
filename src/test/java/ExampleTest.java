/** The example of README.md, call for call: it must answer what README.md says. */
public final class ExampleTest {
    private static final Due due = new Due();

    public static void main(String[] args) {
        ConvKernels k = new ConvKernels();
        due.is("fill(0, -5, 1308, 1)", k.fill(0, -5, 1308, 1), 0);
        due.is("put(64, 7)", k.put(64, 7), 0);
        due.is("put(64, 21)", k.put(64, 21), ConvKernels.BAD_ARG);
        due.is("pixel(64)", k.pixel(64), 7);
        due.is("kernel(4, 3)", k.kernel(4, 3), 0);
        due.is("kernel(13, -2)", k.kernel(13, -2), 0);
        due.is("shape(2, 1)", k.shape(2, 1), 4);
        due.is("width()", k.width(), 0);
        due.is("way(2)", k.way(2), 0);
        due.is("move()", k.move(), 4);
        due.is("result(0, 0)", k.result(0, 0), -29);
        due.is("result(4, 0)", k.result(4, 0), 0);
        due.is("sum()", k.sum(), 241);
        due.is("peak()", k.peak(), 11);
        due.is("floor()", k.floor(), 4);
        due.is("thin()", k.thin(), 2);
        due.is("divide(7)", k.divide(7), 2);
        due.is("take(0)", k.take(0), 64);
        due.end();
    }
}
