/** The calls that README.md shows, with the answers that it tells. */
public final class ReadmeTest {
    public static void main(String[] args) {
        RoadsWithTides x = new RoadsWithTides();
        Check.due("sign", x.sign('p' << 24 | '5' << 16 | ';' << 8 | 'p'), 4);
        Check.due("sign", x.sign('9' << 24 | ';' << 16 | 'r' << 8 | 'a'), 8);
        Check.due("sign", x.sign('b' << 24 | '3' << 16 | '-' << 8 | '1'), 12);
        Check.due("sign", x.sign('0' << 24), 16);
        Check.due("end", x.end(13), true);
        Check.due("flats", x.flats(), 3);
        Check.due("soonest", x.soonest(0, 1), 6);
        Check.due("count(11)", x.count(11), 2);
        Check.due("row(0)", x.row(0), 3);
        Check.due("row(1)", x.row(1), 0);
        Check.noSuch("row(2)", () -> x.row(2));
        Check.due("sign", x.sign('a' << 24 | '2' << 16 | '*' << 8), 4);
        Check.due("end", x.end(3), true);
        Check.due("carts", x.carts(), 1);
        Check.due("out, ahead of the road", x.out(0, 0), -4);
        Check.due("pass", x.pass(3), 0);
        Check.due("out", x.out(0, 0), 3);
        Check.due("pass", x.pass(3), 1);
        Check.due("cart", x.cart(0, 0), 1);
        Check.due("undo", x.undo(), 2);
        Check.due("cart", x.cart(0, 3), 3);
        Check.finish();
    }
}
