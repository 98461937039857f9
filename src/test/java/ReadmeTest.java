import java.io.IOException;
import java.lang.reflect.Method;
import java.lang.reflect.Modifier;
import java.nio.file.Files;
import java.nio.file.Path;

/** README.md: its example answers what it says, and its table has every call of the face. */
public final class ReadmeTest {
    private static final Check check = new Check("ReadmeTest");

    public static void main(String[] args) throws IOException {
        // .ci/run starts the tests in the project's own folder
        String readme = Files.readString(Path.of("README.md"));
        example();
        table(readme);
        check.end();
    }

    private static void example() {
        SendBest x = new SendBest();
        int ladder = x.unit(0b11);
        int engine = x.unit(0b01);
        int fire = x.incident(9);
        int crash = x.incident(5);
        x.need(fire, 1, 1);
        x.need(crash, 0, 1);
        x.seconds(ladder, fire, 50);
        x.seconds(ladder, crash, 100);
        x.seconds(engine, crash, 200);
        check.due("send(0)", x.send(0), 2);
        check.due("the unit of need 0", x.needAt(0, 2), ladder);
        check.due("the unit of need 1", x.needAt(1, 2), engine);
        check.due("sum(1)", x.sum(1), 9 * 50 + 5 * 200);
        x.stay(ladder, true);
        check.due("send(300)", x.send(300), 2);
        check.due("the unit that stays", x.needAt(0, 2), ladder);
    }

    private static void table(String readme) {
        for (Method method : SendBest.class.getDeclaredMethods()) {
            if (Modifier.isPublic(method.getModifiers())) {
                String row = "\n| `" + method.getName() + "(";
                check.due("the table's row of " + method.getName(), readme.contains(row) ? 1 : 0, 1);
            }
        }
    }
}
