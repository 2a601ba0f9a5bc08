/** What an argument of a call names. */
enum Role {
    SERVER, CLIENT, KEY, PLACE, WHAT, WRITE, VALUE
}
