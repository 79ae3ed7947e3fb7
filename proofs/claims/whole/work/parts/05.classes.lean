abbrev vwCl : List vw_C := [(RX0, TX0, 2), (RX1, TX1, 8), (RX2, TX2, 2), (RX3, TX3, 5), (RX4, TX4, 2), (RX5, TX5, 4), (RX6, TX6, 1), (RX7, TX7, 4), (RX8, TX8, 6), (RX9, TX9, 6), (RX10, TX10, 24)]
