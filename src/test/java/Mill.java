import java.nio.charset.StandardCharsets;

/** A mill that is told its tapes and cells as strings. */
final class Mill {
  static final String[] KEYWORDS = {"page", "order", "down", "group", "let", "total", "sum", "count", "least", "most",
      "first", "last", "per", "band", "title", "top", "bottom", "before", "row", "after", "summary", "end", "line", "at",
      "skip", "need", "eject", "keep", "if", "then", "else", "left", "right", "mid", "or", "and", "not", "len", "upper",
      "part", "text", "money", "abs", "pageno", "pages", "rowno"};

  final ReportMill mill = new ReportMill();

  /** Makes the tape hold this text. */
  Mill tape(String text) {
    mill.trim(0);
    return append(text);
  }

  Mill append(String text) {
    byte[] bytes = text.getBytes(StandardCharsets.ISO_8859_1);
    for (int from = 0; from < bytes.length; from += 20) {
      mill.feed(four(bytes, from), four(bytes, from + 4), four(bytes, from + 8),
          four(bytes, from + 12), four(bytes, from + 16));
      if (from + 20 > bytes.length) {
        mill.trim(mill.count(2) - (from + 20 - bytes.length));
      }
    }
    return this;
  }

  /** Adds columns; a name with a $ behind it means texts. */
  Mill columns(String... names) {
    for (String name : names) {
      boolean isText = name.endsWith("$");
      tape(isText ? name.substring(0, name.length() - 1) : name);
      mill.column(isText);
    }
    return this;
  }

  /** Puts cells; strings are texts. */
  Mill cells(Object... cells) {
    for (Object cell : cells) {
      mill.put(cell instanceof String ? packed((String) cell) : ((Number) cell).longValue());
    }
    return this;
  }

  int compile(String text) {
    return tape(text).mill.compile();
  }

  /** Compiles and tells the error with its position. */
  String error(String text) {
    int error = compile(text);
    return error + "@" + mill.errorAt();
  }

  /** Evaluates over a row: a number, a text in quotes, or the error with its position. */
  String value(String text, int row) {
    int kind = tape(text).mill.evaluate(row);
    if (kind == 0) {
      return "" + mill.result();
    }
    if (kind != 7) {
      return "error " + kind + "@" + mill.errorAt();
    }
    StringBuilder bytes = new StringBuilder("'");
    for (int i = 0; i < mill.result(); i++) {
      bytes.append((char) mill.resultByte(i));
    }
    return bytes.append("'").toString();
  }

  String value(String text) {
    return value(text, -1);
  }

  /** The code of the program: codes with their arguments, if these are not 0. */
  String code() {
    StringBuilder code = new StringBuilder();
    for (int i = 0; i < mill.codeSize(); i++) {
      long argument = mill.code(i, true);
      code.append(i == 0 ? "" : " ").append(mill.code(i, false));
      code.append(argument == 0 ? "" : ":" + argument);
    }
    return code.toString();
  }

  /** A line of a page without the blanks at its end. */
  String line(int page, int line) {
    StringBuilder text = new StringBuilder();
    for (int place = 1; place <= mill.size(false); place++) {
      text.append((char) mill.byteAt(page, line, place));
    }
    return text.toString().stripTrailing();
  }

  /** A page, its lines parted by |. */
  String page(int page) {
    StringBuilder text = new StringBuilder();
    for (int line = 1; line <= mill.size(true); line++) {
      text.append(line == 1 ? "" : "|").append(line(page, line));
    }
    return text.toString();
  }

  /** All pages of the latest run, parted by //. */
  String pages() {
    StringBuilder text = new StringBuilder();
    for (int page = 1; page <= mill.told(1); page++) {
      text.append(page == 1 ? "" : " // ").append(page(page));
    }
    return text.toString();
  }

  /**
   * These pages, if the latest run made them, or else the ones that it made. The sums of their lines take one call
   * for a line, where their bytes would take more than the 512 calls that a mill is made for.
   */
  String pagesLike(String due) {
    String[] pages = due.split(" // ", -1);
    if (mill.told(1) != pages.length) {
      return pages();
    }
    for (int page = 1; page <= pages.length; page++) {
      String[] lines = pages[page - 1].split("\\|", -1);
      if (mill.size(true) != lines.length) {
        return pages();
      }
      for (int line = 1; line <= lines.length; line++) {
        if (mill.lineSum(page, line) != sum(lines[line - 1], mill.size(false))) {
          return pages();
        }
      }
    }
    return due;
  }

  /** The sum of a line of so many bytes that begins with this text. */
  static long sum(String text, int width) {
    long sum = 0;
    for (int i = 0; i < width; i++) {
      sum = sum * 31 + (i < text.length() ? text.charAt(i) : ' ');
    }
    return sum;
  }

  static long packed(String text) {
    long cell = 0;
    for (int i = 0; i < text.length(); i++) {
      cell = cell << 8 | text.charAt(i);
    }
    return cell;
  }

  private static int four(byte[] bytes, int from) {
    int number = 0;
    for (int i = from; i < from + 4; i++) {
      number = number << 8 | (i < bytes.length ? bytes[i] & 255 : 0);
    }
    return number;
  }
}
