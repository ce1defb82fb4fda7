import javax.tools.ToolProvider;

/** The form of the class: what ../shared/LANGUAGE.md asks for, as far as it can be seen in the text. */
public final class FormTest {

    public static void main(String[] args) {
        if (ToolProvider.getSystemJavaCompiler() == null) {
            System.out.println("this java has no compiler in it: the form is not looked at");
            return;
        }
        Form form = Form.read("src/main/java/PlankBridge.java");
        FormRules.check(form);
        Checks.end();
    }
}
