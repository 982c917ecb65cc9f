/** A call on an object, with its answer. */
interface Deed {
    int on(GossipArches x);
}
