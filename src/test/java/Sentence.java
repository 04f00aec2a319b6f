import java.lang.annotation.ElementType;
import java.lang.annotation.Retention;
import java.lang.annotation.RetentionPolicy;
import java.lang.annotation.Target;

/** The sentence of the document that a test of a boundary belongs to, word by word. */
@Retention(RetentionPolicy.RUNTIME)
@Target(ElementType.METHOD)
@interface Sentence {
    /** Under which heading it stands: "Promise 2", or "Terms I, ROADS". */
    String of();

    String says();
}
