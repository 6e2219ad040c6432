/** The example of README.md, line by line. */
public final class UseTest {
    private UseTest() {
    }

    public static void main(String[] args) {
        SettingStore store = new SettingStore();
        Check.due("on()", store.on(), 0);
        Check.due("set(5, 1234, 2)", store.set(5, 1234, 2), 5);
        Check.due("get(5)", store.get(5), 1234);
        Check.due("get(6)", store.get(6), SettingStore.NOTHING);
        Check.due("bump(32)", store.bump(32), 1);
        Check.due("bump(32)", store.bump(32), 2);
        Check.due("begin()", store.begin(), true);
        Check.due("set(5, 99, 1)", store.set(5, 99, 1), 0);
        Check.due("set(6, 7, 1)", store.set(6, 7, 1), 0);
        Check.due("get(5)", store.get(5), 1234);
        Check.due("commit()", store.commit(), 12);
        Check.due("get(5)", store.get(5), 99);
        Check.due("history(5, 1)", store.history(5, 1), 1234);
        Check.due("hand()", store.hand(), 20);
        Check.due("power(3, 240)", store.power(3, 240), true);
        Check.due("set(7, 1, 1)", store.set(7, 1, 1), -3);
        Check.due("get(5)", store.get(5), SettingStore.NONE);
        Check.due("on()", store.on(), 3);
        Check.due("get(7)", store.get(7), SettingStore.NOTHING);
        Check.finish("UseTest");
    }
}
