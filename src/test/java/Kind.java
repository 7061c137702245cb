import java.util.List;
import java.util.Random;

/** A kind as the tests hand it to an object, with its published check of the digits 1 to 9. */
record Kind(int width, long polynomial, long first, boolean in, boolean out, long last, long check) {

    static final String DIGITS = "123456789";

    /** Published kinds and their published checks; one of them has IN and OUT unlike. */
    static final List<Kind> PUBLISHED = List.of(
            of(3, 0x3L, 0x0L, false, 0x7L, 0x4L),
            of(3, 0x3L, 0x7L, true, 0x0L, 0x6L),
            of(4, 0x3L, 0x0L, true, 0x0L, 0x7L),
            of(4, 0x3L, 0xFL, false, 0xFL, 0xBL),
            of(5, 0x05L, 0x1FL, true, 0x1FL, 0x19L),
            of(5, 0x09L, 0x09L, false, 0x00L, 0x00L),
            of(6, 0x27L, 0x3FL, false, 0x00L, 0x0DL),
            of(7, 0x09L, 0x00L, false, 0x00L, 0x75L),
            of(8, 0x07L, 0x00L, false, 0x00L, 0xF4L),
            of(8, 0x2FL, 0xFFL, false, 0xFFL, 0xDFL),
            of(10, 0x233L, 0x000L, false, 0x000L, 0x199L),
            of(11, 0x385L, 0x01AL, false, 0x000L, 0x5A3L),
            new Kind(12, 0x80FL, 0x000L, false, true, 0x000L, 0xDAFL),
            of(13, 0x1CF5L, 0x0000L, false, 0x0000L, 0x04FAL),
            of(14, 0x0805L, 0x0000L, true, 0x0000L, 0x082DL),
            of(15, 0x4599L, 0x0000L, false, 0x0000L, 0x059EL),
            of(16, 0x8005L, 0x0000L, true, 0x0000L, 0xBB3DL),
            of(16, 0x1021L, 0xFFFFL, false, 0x0000L, 0x29B1L),
            of(16, 0x1021L, 0x0000L, false, 0x0000L, 0x31C3L),
            of(16, 0x1021L, 0x0000L, true, 0x0000L, 0x2189L),
            of(17, 0x1685BL, 0x00000L, false, 0x00000L, 0x04F03L),
            of(21, 0x102899L, 0x000000L, false, 0x000000L, 0x0ED841L),
            of(24, 0x864CFBL, 0xB704CEL, false, 0x000000L, 0x21CF02L),
            of(24, 0x00065BL, 0x555555L, true, 0x000000L, 0xC25A56L),
            of(30, 0x2030B9C7L, 0x3FFFFFFFL, false, 0x3FFFFFFFL, 0x04C34ABFL),
            of(31, 0x04C11DB7L, 0x7FFFFFFFL, false, 0x7FFFFFFFL, 0x0CE9E46CL),
            of(32, 0x04C11DB7L, 0xFFFFFFFFL, true, 0xFFFFFFFFL, 0xCBF43926L),
            of(32, 0x04C11DB7L, 0xFFFFFFFFL, false, 0xFFFFFFFFL, 0xFC891918L),
            of(32, 0x04C11DB7L, 0xFFFFFFFFL, false, 0x00000000L, 0x0376E6E7L),
            of(32, 0x1EDC6F41L, 0xFFFFFFFFL, true, 0xFFFFFFFFL, 0xE3069283L),
            of(40, 0x0004820009L, 0L, false, 0xFFFFFFFFFFL, 0xD4164FC646L),
            of(64, 0x42F0E1EBA9EA3693L, 0L, false, 0L, 0x6C40DF5F0B497347L),
            of(64, 0x42F0E1EBA9EA3693L, -1L, false, -1L, 0x62EC59E3F1A4F00AL),
            of(64, 0x000000000000001BL, -1L, true, -1L, 0xB90956C775A41001L),
            of(64, 0x42F0E1EBA9EA3693L, -1L, true, -1L, 0x995DC9BBDF1939FAL));

    private static Kind of(int width, long polynomial, long first, boolean both, long last, long check) {
        return new Kind(width, polynomial, first, both, both, last, check);
    }

    /** Any kind of this width, its numbers with bits above the width too. Its check is not known. */
    static Kind any(int width, Random source) {
        return new Kind(width, source.nextLong(), source.nextLong(), source.nextBoolean(),
                source.nextBoolean(), source.nextLong(), 0L);
    }
}
