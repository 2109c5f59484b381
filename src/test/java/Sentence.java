import java.lang.annotation.ElementType;
import java.lang.annotation.Retention;
import java.lang.annotation.RetentionPolicy;
import java.lang.annotation.Target;

/** The words of DOC.md that a test holds the class to, and the heading that they stand under. */
@Retention(RetentionPolicy.RUNTIME)
@Target(ElementType.METHOD)
@interface Sentence {
    /** "Promise 2", "ASKING", .. as Document tells them. */
    String under();

    String says();
}
