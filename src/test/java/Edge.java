import java.lang.annotation.ElementType;
import java.lang.annotation.Retention;
import java.lang.annotation.RetentionPolicy;
import java.lang.annotation.Target;

/** Marks a test of a boundary case; EdgesTest runs it and looks for the sentence in the document. */
@Retention(RetentionPolicy.RUNTIME)
@Target(ElementType.METHOD)
@interface Edge {
    /** The promise that the test is for. */
    int promise();

    /** The document's words: of the promise itself, or of the terms that it uses. */
    String says();
}
