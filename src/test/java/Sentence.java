import java.lang.annotation.ElementType;
import java.lang.annotation.Retention;
import java.lang.annotation.RetentionPolicy;
import java.lang.annotation.Target;

/** The sentence of the document that a test asks for; SentenceRunner looks it up there. */
@Retention(RetentionPolicy.RUNTIME)
@Target(ElementType.METHOD)
@interface Sentence {
    /** The heading it stands under, up to its ":", as "Promise 2" or "Marks". */
    String of();

    /** Its words, or those of the part of it that the test asks for. */
    String says();
}
