/** Two runs of calls that leave the same behind them, so that no later call can tell them apart; words say why. */
record Same(String words, int nodes, int links, String run, String other) { }
