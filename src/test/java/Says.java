import java.lang.annotation.Retention;
import java.lang.annotation.RetentionPolicy;

/** The words of ../shared/DOC.md that a test holds, and where they stand there: "Promise 5", "Terms 3". */
@Retention(RetentionPolicy.RUNTIME)
@interface Says {
    String in();

    String text();
}
