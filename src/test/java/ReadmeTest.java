import java.io.IOException;
import java.nio.file.Files;
import java.nio.file.Path;

/** The answers that README.md tells: its calls in their order, and its examples of the three texts. */
public final class ReadmeTest {
    private static String page = "";

    private ReadmeTest() {
    }

    public static void main(String[] args) throws IOException {
        page = Files.readString(Path.of("README.md"));
        use();
        examples();
        Due.end();
    }

    /** The page has a line with the call, and the number behind it is what was answered. */
    private static void told(String call, int answer) {
        String line = "none";
        int at = page.indexOf("\n" + call + ";");
        if (at >= 0) {
            // What stands above this line is told already.
            page = page.substring(at + 1);
            line = page.substring(0, page.indexOf('\n'));
        }
        Due.same(call, answer + ":", line.replaceAll(".*// (-?[0-9]+:).*", "$1"));
    }

    private static void use() {
        AskedValley v = new AskedValley();
        told("v.feed(0x323b613a, 0x303e313d, 0x352c2a3e, 0x303d3700, 0)", v.feed(0x323b613a, 0x303e313d, 0x352c2a3e, 0x303d3700, 0));
        told("v.valley(15)", v.valley(15));
        told("v.feed(0x33610000, 0, 0, 0, 0)", v.feed(0x33610000, 0, 0, 0, 0));
        told("v.look(2, 102)", v.look(2, 102));
        told("v.feed(0x33610000, 0, 0, 0, 0)", v.feed(0x33610000, 0, 0, 0, 0));
        told("v.census(2)", v.census(2));
        told("v.count(2)", v.count(2));
        told("v.leads(0, 1, 1)", v.leads(0, 1, 1));
        told("v.known(0)", v.known(0));
        told("v.plan(3, 0)", v.plan(3, 0));
        told("v.feed(0x65322871, 0x3d30293b, 0x672d0000, 0, 0)", v.feed(0x65322871, 0x3d30293b, 0x672d0000, 0, 0));
        told("v.law(10)", v.law(10));
        told("v.feed(0x65322871, 0x3d30293b, 0x67612831, 0x3d312900, 0)", v.feed(0x65322871, 0x3d30293b, 0x67612831, 0x3d312900, 0));
        told("v.law(15)", v.law(15));
        told("v.tried(3, 2)", v.tried(3, 2));
        told("v.days(3)", v.days(3));
        told("v.law(1)", v.law(1));
    }

    private static void examples() {
        String[] text = {"3;a:0>1=5,*>.=7;h:2>0=1", "2a3(b2(ac))h", "e5+q(a<3&!(q=l));g2*a(w>4);x(p>b/2)"};
        for (String each : text) {
            Due.is("the page has " + each, page.contains("`" + each + "`"), true);
        }
        AskedValley v = new AskedValley();
        Due.is("the valley", Due.valley(v, text[0]), 3);
        Due.is("the census", Due.look(v, text[1], 103), 18);
        Due.is("the law", Due.law(v, text[2]), 3);
    }
}
