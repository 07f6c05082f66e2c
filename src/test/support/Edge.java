import java.lang.annotation.Retention;
import java.lang.annotation.RetentionPolicy;

/** One edge that the document names: the promise it stands in, and the document's own words for it. */
@Retention(RetentionPolicy.RUNTIME)
@interface Edge {
    int promise();

    String says();
}
