public final class ConstantsTest {
    public static void main(String[] args) {
        boolean fine = LostPlaces.NONE == -1 && LostPlaces.AWAY == -2 && LostPlaces.HIDDEN == -1000000;
        if (!fine) System.exit(1);
    }
}
