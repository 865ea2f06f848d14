import java.lang.reflect.Constructor;
import java.lang.reflect.Field;
import java.lang.reflect.Method;
import java.lang.reflect.Modifier;
import java.util.Arrays;
import java.util.Set;
import java.util.TreeSet;

/** The public face is the document's, no more and no less, and all else is private. */
public final class FaceTest {
    private static final Set<String> FACE = new TreeSet<>(Arrays.asList(
            "public static final int PackageAuction.BAD",
            "public static final int PackageAuction.FULL",
            "public static final int PackageAuction.NONE",
            "public PackageAuction()",
            "public int PackageAuction.bid(int,int,int)",
            "public boolean PackageAuction.retract(int)",
            "public boolean PackageAuction.raise(int,int)",
            "public boolean PackageAuction.withhold(int,boolean)",
            "public int PackageAuction.bids()",
            "public int PackageAuction.withheld()",
            "public int PackageAuction.winners()",
            "public int PackageAuction.revenue()",
            "public int PackageAuction.sold()",
            "public int PackageAuction.revenueWithout(int)",
            "public int PackageAuction.payment(int)",
            "public int PackageAuction.threshold(int)",
            "public int PackageAuction.revenueWith(int)",
            "public int PackageAuction.price(int)",
            "public boolean PackageAuction.allocation(int)"));

    private FaceTest() {
    }

    public static void main(String[] args) {
        Set<String> found = new TreeSet<>();
        for (Field field : PackageAuction.class.getDeclaredFields()) {
            addUnlessPrivate(found, field.getModifiers(), field.toString());
        }
        for (Constructor<?> constructor : PackageAuction.class.getDeclaredConstructors()) {
            addUnlessPrivate(found, constructor.getModifiers(), constructor.toString());
        }
        for (Method method : PackageAuction.class.getDeclaredMethods()) {
            addUnlessPrivate(found, method.getModifiers(), method.toString());
        }
        for (String member : FACE) {
            Due.is("there is " + member, found.contains(member), true);
        }
        for (String member : found) {
            Due.is("the document has " + member, FACE.contains(member), true);
        }
        int kind = PackageAuction.class.getModifiers();
        Due.is("the class is public", Modifier.isPublic(kind), true);
        Due.is("the class is final", Modifier.isFinal(kind), true);
        Due.is("BAD", PackageAuction.BAD, -1);
        Due.is("FULL", PackageAuction.FULL, -2);
        Due.is("NONE", PackageAuction.NONE, -1);
        Due.end("FaceTest");
    }

    private static void addUnlessPrivate(Set<String> found, int modifiers, String member) {
        if (!Modifier.isPrivate(modifiers)) {
            found.add(member);
        }
    }
}
