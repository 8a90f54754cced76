import java.lang.annotation.Retention;
import java.lang.annotation.RetentionPolicy;

/** The words of the document that a test is for: under which promise they stand (0: the terms), and they. */
@Retention(RetentionPolicy.RUNTIME)
@interface Says {
    int at();

    String words();
}
