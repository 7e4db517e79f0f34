/-- Plan's private methods, called on its subclasses -/
def exw : List Cond := [.selects RX4 yX5_firstBest yX5_firstBest, .selects RX4 yX5_sumWith yX5_sumWith, .selects RX7 yX5_firstBest yX5_firstBest, .selects RX7 yX5_sumWith yX5_sumWith]
