/** The codes of the document, by name. */
interface Codes {
  int SET = 0;
  int ADD = 1;
  int SUB = 2;
  int DIV = 3;
  int JUMP = 4;
  int ZERO = 5;
  int CALL = 6;
  int THROW = 7;
  int AGAIN = 8;
  int GIVE = 9;

  int NONE = ThrowFlow.NONE;
  int MAX = Integer.MAX_VALUE;
  int MIN = Integer.MIN_VALUE;
}
