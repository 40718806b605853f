import java.nio.charset.StandardCharsets;

/** Prints what two shops have sold, with a sum for each of them. */
public final class Example {
  static final String PROGRAM = String.join("\n",
      "page 24 6",
      "order shop order down amt",
      "group shop",
      "total sold = sum amt per shop",
      "total all = sum amt",
      "band top line \"page \" pageno \" of \" pages end",
      "band row line shop : 8 money(amt) : 10 right end",
      "band after shop line \"all of \" & shop money(sold) : 10 right skip 1 end",
      "band summary line \"all\" : 8 money(all) : 10 right end");

  public static void main(String[] args) {
    ReportMill mill = new ReportMill();
    tell(mill, "shop");
    mill.column(true);
    tell(mill, "amt");
    mill.column(false);
    sell(mill, "b1", 1250);
    sell(mill, "a1", 300);
    sell(mill, "b1", 99);
    sell(mill, "a1", 12000);

    tell(mill, PROGRAM);
    int error = mill.compile();
    if (error != 0) {
      System.out.println("error " + error + " at " + mill.errorAt());
      return;
    }
    mill.run();
    for (int page = 1; page <= mill.told(1); page++) {
      for (int line = 1; line <= mill.size(true); line++) {
        System.out.println(line(mill, page, line));
      }
    }
  }

  /** Puts a text on the empty tape: twenty bytes with each call, and then off with those that are too many. */
  private static void tell(ReportMill mill, String text) {
    byte[] bytes = text.getBytes(StandardCharsets.ISO_8859_1);
    for (int from = 0; from < bytes.length; from += 20) {
      mill.feed(four(bytes, from), four(bytes, from + 4), four(bytes, from + 8),
          four(bytes, from + 12), four(bytes, from + 16));
    }
    mill.trim(bytes.length);
  }

  private static int four(byte[] bytes, int from) {
    int number = 0;
    for (int i = from; i < from + 4; i++) {
      number = number << 8 | (i < bytes.length ? bytes[i] & 255 : 0);
    }
    return number;
  }

  /** Puts a row: a text cell as the number that its bytes make, and a number. */
  private static void sell(ReportMill mill, String shop, long amount) {
    long cell = 0;
    for (int i = 0; i < shop.length(); i++) {
      cell = cell << 8 | shop.charAt(i);
    }
    mill.put(cell);
    mill.put(amount);
  }

  private static String line(ReportMill mill, int page, int line) {
    StringBuilder text = new StringBuilder();
    for (int place = 1; place <= mill.size(false); place++) {
      text.append((char) mill.byteAt(page, line, place));
    }
    return text.toString().stripTrailing();
  }
}
