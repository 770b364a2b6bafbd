def hL_0 : List hDesc := [.inr (7, [some none, some none, some none, some none, some none, some none, some none, some none, none])]
def hL_1 : List hDesc := [.inr (7, [some none, some none, some none, some none, some none, some none, some none, some none, none]), .inr (0, [some none, some none, some none, some none, none, some none, some none, none, some none, none])]
def hL_2 : List hDesc := [.inr (7, [some none, some none, some none, some none, some none, some none, some none, some none, none]), .inr (0, [some (some 2), some (some 3), some (some 4), some (some 5), none, some (some 6), some (some 7), none, some (some 8), none]), .inl (1, 6144), .inl (0, 4), .inl (0, 4), .inl (0, 1024), .inl (0, 600), .inl (1, 1600), .inl (0, 1500)]
def hL_3 : List hDesc := [.inr (7, [some (some 1), some none, some none, some none, some none, some none, some none, some none, none]), .inr (0, [some (some 2), some (some 3), some (some 4), some (some 5), none, some (some 6), some (some 7), none, some (some 8), none]), .inl (1, 6144), .inl (0, 4), .inl (0, 4), .inl (0, 1024), .inl (0, 600), .inl (1, 1600), .inl (0, 1500), .inr (0, [some none, some none, some none, some none, none, some none, some none, none, some none, none])]
def hL_4 : List hDesc := [.inr (7, [some (some 1), some none, some none, some none, some none, some none, some none, some none, none]), .inr (0, [some (some 2), some (some 3), some (some 4), some (some 5), none, some (some 6), some (some 7), none, some (some 8), none]), .inl (1, 6144), .inl (0, 4), .inl (0, 4), .inl (0, 1024), .inl (0, 600), .inl (1, 1600), .inl (0, 1500), .inr (0, [some (some 10), some (some 11), some (some 12), some (some 13), none, some (some 14), some (some 15), none, some (some 16), none]), .inl (1, 6144), .inl (0, 4), .inl (0, 4), .inl (0, 1024), .inl (0, 600), .inl (1, 1600), .inl (0, 1500)]
def hL_5 : List hDesc := [.inr (7, [some (some 1), some (some 9), some none, some none, some none, some none, some none, some none, none]), .inr (0, [some (some 2), some (some 3), some (some 4), some (some 5), none, some (some 6), some (some 7), none, some (some 8), none]), .inl (1, 6144), .inl (0, 4), .inl (0, 4), .inl (0, 1024), .inl (0, 600), .inl (1, 1600), .inl (0, 1500), .inr (0, [some (some 10), some (some 11), some (some 12), some (some 13), none, some (some 14), some (some 15), none, some (some 16), none]), .inl (1, 6144), .inl (0, 4), .inl (0, 4), .inl (0, 1024), .inl (0, 600), .inl (1, 1600), .inl (0, 1500), .inr (2, [some none, none])]
def hL_6 : List hDesc := [.inr (7, [some (some 1), some (some 9), some none, some none, some none, some none, some none, some none, none]), .inr (0, [some (some 2), some (some 3), some (some 4), some (some 5), none, some (some 6), some (some 7), none, some (some 8), none]), .inl (1, 6144), .inl (0, 4), .inl (0, 4), .inl (0, 1024), .inl (0, 600), .inl (1, 1600), .inl (0, 1500), .inr (0, [some (some 10), some (some 11), some (some 12), some (some 13), none, some (some 14), some (some 15), none, some (some 16), none]), .inl (1, 6144), .inl (0, 4), .inl (0, 4), .inl (0, 1024), .inl (0, 600), .inl (1, 1600), .inl (0, 1500), .inr (2, [some (some 18), none]), .inl (1, 8192)]
def hL_7 : List hDesc := [.inr (7, [some (some 1), some (some 9), some (some 17), some none, some none, some none, some none, some none, none]), .inr (0, [some (some 2), some (some 3), some (some 4), some (some 5), none, some (some 6), some (some 7), none, some (some 8), none]), .inl (1, 6144), .inl (0, 4), .inl (0, 4), .inl (0, 1024), .inl (0, 600), .inl (1, 1600), .inl (0, 1500), .inr (0, [some (some 10), some (some 11), some (some 12), some (some 13), none, some (some 14), some (some 15), none, some (some 16), none]), .inl (1, 6144), .inl (0, 4), .inl (0, 4), .inl (0, 1024), .inl (0, 600), .inl (1, 1600), .inl (0, 1500), .inr (2, [some (some 18), none]), .inl (1, 8192), .inr (6, [some none, some none, some none, some none, some none, some none, some none, some none, some none, some none, some none, some none, none, none, none])]
def hL_8 : List hDesc := [.inr (7, [some (some 1), some (some 9), some (some 17), some none, some none, some none, some none, some none, none]), .inr (0, [some (some 2), some (some 3), some (some 4), some (some 5), none, some (some 6), some (some 7), none, some (some 8), none]), .inl (1, 6144), .inl (0, 4), .inl (0, 4), .inl (0, 1024), .inl (0, 600), .inl (1, 1600), .inl (0, 1500), .inr (0, [some (some 10), some (some 11), some (some 12), some (some 13), none, some (some 14), some (some 15), none, some (some 16), none]), .inl (1, 6144), .inl (0, 4), .inl (0, 4), .inl (0, 1024), .inl (0, 600), .inl (1, 1600), .inl (0, 1500), .inr (2, [some (some 18), none]), .inl (1, 8192), .inr (6, [some none, some none, some none, some none, some none, some none, some none, some none, some none, some none, some none, some none, none, none, none]), .inr (5, [some none, none])]
def hL_9 : List hDesc := [.inr (7, [some (some 1), some (some 9), some (some 17), some none, some none, some none, some none, some none, none]), .inr (0, [some (some 2), some (some 3), some (some 4), some (some 5), none, some (some 6), some (some 7), none, some (some 8), none]), .inl (1, 6144), .inl (0, 4), .inl (0, 4), .inl (0, 1024), .inl (0, 600), .inl (1, 1600), .inl (0, 1500), .inr (0, [some (some 10), some (some 11), some (some 12), some (some 13), none, some (some 14), some (some 15), none, some (some 16), none]), .inl (1, 6144), .inl (0, 4), .inl (0, 4), .inl (0, 1024), .inl (0, 600), .inl (1, 1600), .inl (0, 1500), .inr (2, [some (some 18), none]), .inl (1, 8192), .inr (6, [some none, some none, some none, some none, some none, some none, some none, some none, some none, some none, some none, some none, none, none, none]), .inr (5, [some (some 21), none]), .inl (1, 1701)]
def hL_10 : List hDesc := [.inr (7, [some (some 1), some (some 9), some (some 17), some none, some none, some none, some none, some none, none]), .inr (0, [some (some 2), some (some 3), some (some 4), some (some 5), none, some (some 6), some (some 7), none, some (some 8), none]), .inl (1, 6144), .inl (0, 4), .inl (0, 4), .inl (0, 1024), .inl (0, 600), .inl (1, 1600), .inl (0, 1500), .inr (0, [some (some 10), some (some 11), some (some 12), some (some 13), none, some (some 14), some (some 15), none, some (some 16), none]), .inl (1, 6144), .inl (0, 4), .inl (0, 4), .inl (0, 1024), .inl (0, 600), .inl (1, 1600), .inl (0, 1500), .inr (2, [some (some 18), none]), .inl (1, 8192), .inr (6, [some none, some none, some (some 20), some none, some none, some none, some none, some none, some none, some none, some none, some none, none, none, none]), .inr (5, [some (some 21), none]), .inl (1, 1701), .inr (5, [some none, none])]
def hL_11 : List hDesc := [.inr (7, [some (some 1), some (some 9), some (some 17), some none, some none, some none, some none, some none, none]), .inr (0, [some (some 2), some (some 3), some (some 4), some (some 5), none, some (some 6), some (some 7), none, some (some 8), none]), .inl (1, 6144), .inl (0, 4), .inl (0, 4), .inl (0, 1024), .inl (0, 600), .inl (1, 1600), .inl (0, 1500), .inr (0, [some (some 10), some (some 11), some (some 12), some (some 13), none, some (some 14), some (some 15), none, some (some 16), none]), .inl (1, 6144), .inl (0, 4), .inl (0, 4), .inl (0, 1024), .inl (0, 600), .inl (1, 1600), .inl (0, 1500), .inr (2, [some (some 18), none]), .inl (1, 8192), .inr (6, [some none, some none, some (some 20), some none, some none, some none, some none, some none, some none, some none, some none, some none, none, none, none]), .inr (5, [some (some 21), none]), .inl (1, 1701), .inr (5, [some (some 23), none]), .inl (1, 1701)]
def hL_12 : List hDesc := [.inr (7, [some (some 1), some (some 9), some (some 17), some none, some none, some none, some none, some none, none]), .inr (0, [some (some 2), some (some 3), some (some 4), some (some 5), none, some (some 6), some (some 7), none, some (some 8), none]), .inl (1, 6144), .inl (0, 4), .inl (0, 4), .inl (0, 1024), .inl (0, 600), .inl (1, 1600), .inl (0, 1500), .inr (0, [some (some 10), some (some 11), some (some 12), some (some 13), none, some (some 14), some (some 15), none, some (some 16), none]), .inl (1, 6144), .inl (0, 4), .inl (0, 4), .inl (0, 1024), .inl (0, 600), .inl (1, 1600), .inl (0, 1500), .inr (2, [some (some 18), none]), .inl (1, 8192), .inr (6, [some (some 1), some (some 17), some (some 20), some (some 22), some (some 24), some (some 25), some (some 26), some (some 27), some (some 28), some (some 29), some (some 30), some (some 31), none, none, none]), .inr (5, [some (some 21), none]), .inl (1, 1701), .inr (5, [some (some 23), none]), .inl (1, 1701), .inl (1, 16), .inl (0, 11), .inl (0, 11), .inl (0, 11), .inl (0, 11), .inl (0, 100), .inl (0, 100), .inl (0, 100)]
def hL_13 : List hDesc := [.inr (7, [some (some 1), some (some 9), some (some 17), some (some 19), some none, some none, some none, some none, none]), .inr (0, [some (some 2), some (some 3), some (some 4), some (some 5), none, some (some 6), some (some 7), none, some (some 8), none]), .inl (1, 6144), .inl (0, 4), .inl (0, 4), .inl (0, 1024), .inl (0, 600), .inl (1, 1600), .inl (0, 1500), .inr (0, [some (some 10), some (some 11), some (some 12), some (some 13), none, some (some 14), some (some 15), none, some (some 16), none]), .inl (1, 6144), .inl (0, 4), .inl (0, 4), .inl (0, 1024), .inl (0, 600), .inl (1, 1600), .inl (0, 1500), .inr (2, [some (some 18), none]), .inl (1, 8192), .inr (6, [some (some 1), some (some 17), some (some 20), some (some 22), some (some 24), some (some 25), some (some 26), some (some 27), some (some 28), some (some 29), some (some 30), some (some 31), none, none, none]), .inr (5, [some (some 21), none]), .inl (1, 1701), .inr (5, [some (some 23), none]), .inl (1, 1701), .inl (1, 16), .inl (0, 11), .inl (0, 11), .inl (0, 11), .inl (0, 11), .inl (0, 100), .inl (0, 100), .inl (0, 100), .inr (3, [none])]
def hL_14 : List hDesc := [.inr (7, [some (some 1), some (some 9), some (some 17), some (some 19), some (some 32), some none, some none, some none, none]), .inr (0, [some (some 2), some (some 3), some (some 4), some (some 5), none, some (some 6), some (some 7), none, some (some 8), none]), .inl (1, 6144), .inl (0, 4), .inl (0, 4), .inl (0, 1024), .inl (0, 600), .inl (1, 1600), .inl (0, 1500), .inr (0, [some (some 10), some (some 11), some (some 12), some (some 13), none, some (some 14), some (some 15), none, some (some 16), none]), .inl (1, 6144), .inl (0, 4), .inl (0, 4), .inl (0, 1024), .inl (0, 600), .inl (1, 1600), .inl (0, 1500), .inr (2, [some (some 18), none]), .inl (1, 8192), .inr (6, [some (some 1), some (some 17), some (some 20), some (some 22), some (some 24), some (some 25), some (some 26), some (some 27), some (some 28), some (some 29), some (some 30), some (some 31), none, none, none]), .inr (5, [some (some 21), none]), .inl (1, 1701), .inr (5, [some (some 23), none]), .inl (1, 1701), .inl (1, 16), .inl (0, 11), .inl (0, 11), .inl (0, 11), .inl (0, 11), .inl (0, 100), .inl (0, 100), .inl (0, 100), .inr (3, [none]), .inr (1, [some none, some none, some none, some none, some none, some none, some none, none, none, none])]
def hL_15 : List hDesc := [.inr (7, [some (some 1), some (some 9), some (some 17), some (some 19), some (some 32), some none, some none, some none, none]), .inr (0, [some (some 2), some (some 3), some (some 4), some (some 5), none, some (some 6), some (some 7), none, some (some 8), none]), .inl (1, 6144), .inl (0, 4), .inl (0, 4), .inl (0, 1024), .inl (0, 600), .inl (1, 1600), .inl (0, 1500), .inr (0, [some (some 10), some (some 11), some (some 12), some (some 13), none, some (some 14), some (some 15), none, some (some 16), none]), .inl (1, 6144), .inl (0, 4), .inl (0, 4), .inl (0, 1024), .inl (0, 600), .inl (1, 1600), .inl (0, 1500), .inr (2, [some (some 18), none]), .inl (1, 8192), .inr (6, [some (some 1), some (some 17), some (some 20), some (some 22), some (some 24), some (some 25), some (some 26), some (some 27), some (some 28), some (some 29), some (some 30), some (some 31), none, none, none]), .inr (5, [some (some 21), none]), .inl (1, 1701), .inr (5, [some (some 23), none]), .inl (1, 1701), .inl (1, 16), .inl (0, 11), .inl (0, 11), .inl (0, 11), .inl (0, 11), .inl (0, 100), .inl (0, 100), .inl (0, 100), .inr (3, [none]), .inr (1, [some (some 17), some (some 32), some (some 34), some (some 35), some (some 36), some (some 37), some (some 38), none, none, none]), .inl (0, 16), .inl (0, 11), .inl (0, 11), .inl (0, 11), .inl (0, 11)]
def hL_16 : List hDesc := [.inr (7, [some (some 1), some (some 9), some (some 17), some (some 19), some (some 32), some (some 33), some none, some none, none]), .inr (0, [some (some 2), some (some 3), some (some 4), some (some 5), none, some (some 6), some (some 7), none, some (some 8), none]), .inl (1, 6144), .inl (0, 4), .inl (0, 4), .inl (0, 1024), .inl (0, 600), .inl (1, 1600), .inl (0, 1500), .inr (0, [some (some 10), some (some 11), some (some 12), some (some 13), none, some (some 14), some (some 15), none, some (some 16), none]), .inl (1, 6144), .inl (0, 4), .inl (0, 4), .inl (0, 1024), .inl (0, 600), .inl (1, 1600), .inl (0, 1500), .inr (2, [some (some 18), none]), .inl (1, 8192), .inr (6, [some (some 1), some (some 17), some (some 20), some (some 22), some (some 24), some (some 25), some (some 26), some (some 27), some (some 28), some (some 29), some (some 30), some (some 31), none, none, none]), .inr (5, [some (some 21), none]), .inl (1, 1701), .inr (5, [some (some 23), none]), .inl (1, 1701), .inl (1, 16), .inl (0, 11), .inl (0, 11), .inl (0, 11), .inl (0, 11), .inl (0, 100), .inl (0, 100), .inl (0, 100), .inr (3, [none]), .inr (1, [some (some 17), some (some 32), some (some 34), some (some 35), some (some 36), some (some 37), some (some 38), none, none, none]), .inl (0, 16), .inl (0, 11), .inl (0, 11), .inl (0, 11), .inl (0, 11), .inr (4, [some none, some none, some none, none])]
def hL_17 : List hDesc := [.inr (7, [some (some 1), some (some 9), some (some 17), some (some 19), some (some 32), some (some 33), some none, some none, none]), .inr (0, [some (some 2), some (some 3), some (some 4), some (some 5), none, some (some 6), some (some 7), none, some (some 8), none]), .inl (1, 6144), .inl (0, 4), .inl (0, 4), .inl (0, 1024), .inl (0, 600), .inl (1, 1600), .inl (0, 1500), .inr (0, [some (some 10), some (some 11), some (some 12), some (some 13), none, some (some 14), some (some 15), none, some (some 16), none]), .inl (1, 6144), .inl (0, 4), .inl (0, 4), .inl (0, 1024), .inl (0, 600), .inl (1, 1600), .inl (0, 1500), .inr (2, [some (some 18), none]), .inl (1, 8192), .inr (6, [some (some 1), some (some 17), some (some 20), some (some 22), some (some 24), some (some 25), some (some 26), some (some 27), some (some 28), some (some 29), some (some 30), some (some 31), none, none, none]), .inr (5, [some (some 21), none]), .inl (1, 1701), .inr (5, [some (some 23), none]), .inl (1, 1701), .inl (1, 16), .inl (0, 11), .inl (0, 11), .inl (0, 11), .inl (0, 11), .inl (0, 100), .inl (0, 100), .inl (0, 100), .inr (3, [none]), .inr (1, [some (some 17), some (some 32), some (some 34), some (some 35), some (some 36), some (some 37), some (some 38), none, none, none]), .inl (0, 16), .inl (0, 11), .inl (0, 11), .inl (0, 11), .inl (0, 11), .inr (4, [some (some 17), some (some 32), some (some 33), none])]
def hL_18 : List hDesc := [.inr (7, [some (some 1), some (some 9), some (some 17), some (some 19), some (some 32), some (some 33), some (some 39), some (some 40), none]), .inr (0, [some (some 2), some (some 3), some (some 4), some (some 5), none, some (some 6), some (some 7), none, some (some 8), none]), .inl (1, 6144), .inl (0, 4), .inl (0, 4), .inl (0, 1024), .inl (0, 600), .inl (1, 1600), .inl (0, 1500), .inr (0, [some (some 10), some (some 11), some (some 12), some (some 13), none, some (some 14), some (some 15), none, some (some 16), none]), .inl (1, 6144), .inl (0, 4), .inl (0, 4), .inl (0, 1024), .inl (0, 600), .inl (1, 1600), .inl (0, 1500), .inr (2, [some (some 18), none]), .inl (1, 8192), .inr (6, [some (some 1), some (some 17), some (some 20), some (some 22), some (some 24), some (some 25), some (some 26), some (some 27), some (some 28), some (some 29), some (some 30), some (some 31), none, none, none]), .inr (5, [some (some 21), none]), .inl (1, 1701), .inr (5, [some (some 23), none]), .inl (1, 1701), .inl (1, 16), .inl (0, 11), .inl (0, 11), .inl (0, 11), .inl (0, 11), .inl (0, 100), .inl (0, 100), .inl (0, 100), .inr (3, [none]), .inr (1, [some (some 17), some (some 32), some (some 34), some (some 35), some (some 36), some (some 37), some (some 38), none, none, none]), .inl (0, 16), .inl (0, 11), .inl (0, 11), .inl (0, 11), .inl (0, 11), .inr (4, [some (some 17), some (some 32), some (some 33), none]), .inl (1, 16)]
def hL_19 : List hDesc := [.inr (7, [some (some 1), some (some 9), some (some 17), some (some 19), some (some 32), some (some 33), some (some 39), some (some 40), none]), .inr (0, [some (some 2), some (some 3), some (some 4), some (some 5), none, some (some 6), some (some 7), none, some (some 8), none]), .inl (1, 6144), .inl (0, 4), .inl (0, 4), .inl (0, 1024), .inl (0, 600), .inl (1, 1600), .inl (0, 1500), .inr (0, [some (some 10), some (some 11), some (some 12), some (some 13), none, some (some 14), some (some 15), none, some (some 16), none]), .inl (1, 6144), .inl (0, 4), .inl (0, 4), .inl (0, 1024), .inl (0, 600), .inl (1, 1600), .inl (0, 1500), .inr (2, [some (some 18), none]), .inl (1, 8192), .inr (6, [some (some 1), some (some 17), some (some 20), some (some 22), some (some 24), some (some 25), some (some 26), some (some 27), some (some 28), some (some 29), some (some 30), some (some 31), none, none, none]), .inr (5, [some (some 21), none]), .inl (1, 1701), .inr (5, [some (some 23), none]), .inl (1, 1701), .inl (1, 16), .inl (0, 11), .inl (0, 11), .inl (0, 11), .inl (0, 11), .inl (0, 100), .inl (0, 100), .inl (0, 100), .inr (3, [none]), .inr (1, [some (some 17), some (some 32), some (some 34), some (some 35), some (some 36), some (some 37), some (some 38), none, none, none]), .inl (0, 16), .inl (0, 11), .inl (0, 11), .inl (0, 11), .inl (0, 11), .inr (4, [some (some 17), some (some 32), some (some 33), none]), .inl (1, 16), .inr (8, [some none, some none, some none, some none, some none, some none, some none, some none, some none, some none, some none, some none, some none, some none, some none, some none, some none, some none, some none, some none, none, some none, none, none, some none, some none, some none, some none, some none, some none, none, some none, none, some none, some none, some none, none, some none, some none, none, none])]
def hL_20 : List hDesc := [.inr (7, [some (some 1), some (some 9), some (some 17), some (some 19), some (some 32), some (some 33), some (some 39), some (some 40), none]), .inr (0, [some (some 2), some (some 3), some (some 4), some (some 5), none, some (some 6), some (some 7), none, some (some 8), none]), .inl (1, 6144), .inl (0, 4), .inl (0, 4), .inl (0, 1024), .inl (0, 600), .inl (1, 1600), .inl (0, 1500), .inr (0, [some (some 10), some (some 11), some (some 12), some (some 13), none, some (some 14), some (some 15), none, some (some 16), none]), .inl (1, 6144), .inl (0, 4), .inl (0, 4), .inl (0, 1024), .inl (0, 600), .inl (1, 1600), .inl (0, 1500), .inr (2, [some (some 18), none]), .inl (1, 8192), .inr (6, [some (some 1), some (some 17), some (some 20), some (some 22), some (some 24), some (some 25), some (some 26), some (some 27), some (some 28), some (some 29), some (some 30), some (some 31), none, none, none]), .inr (5, [some (some 21), none]), .inl (1, 1701), .inr (5, [some (some 23), none]), .inl (1, 1701), .inl (1, 16), .inl (0, 11), .inl (0, 11), .inl (0, 11), .inl (0, 11), .inl (0, 100), .inl (0, 100), .inl (0, 100), .inr (3, [none]), .inr (1, [some (some 17), some (some 32), some (some 34), some (some 35), some (some 36), some (some 37), some (some 38), none, none, none]), .inl (0, 16), .inl (0, 11), .inl (0, 11), .inl (0, 11), .inl (0, 11), .inr (4, [some (some 17), some (some 32), some (some 33), none]), .inl (1, 16), .inr (8, [some (some 42), some (some 43), some (some 44), some (some 45), some (some 46), some (some 47), some (some 48), some (some 49), some (some 50), some (some 51), some (some 52), some (some 53), some (some 54), some (some 55), some (some 56), some (some 57), some (some 58), some (some 59), some (some 60), some (some 61), none, some (some 62), none, none, some (some 63), some (some 64), some (some 65), some (some 66), some (some 67), some (some 68), none, some (some 69), none, some (some 70), some (some 71), some (some 72), none, some (some 73), some (some 74), none, none]), .inl (0, 12288), .inl (0, 8), .inl (0, 8), .inl (0, 2048), .inl (0, 2), .inl (0, 200), .inl (0, 200), .inl (0, 200), .inl (0, 200), .inl (0, 200), .inl (0, 200), .inl (0, 3200), .inl (0, 2), .inl (0, 600), .inl (0, 600), .inl (0, 600), .inl (0, 600), .inl (0, 600), .inl (0, 2), .inl (0, 16), .inl (0, 8192), .inl (0, 128), .inl (0, 11), .inl (0, 11), .inl (0, 11), .inl (0, 11), .inl (0, 2048), .inl (0, 24), .inl (0, 100), .inl (0, 100), .inl (0, 11), .inl (0, 11), .inl (0, 16)]
theorem ty_CT : ∀ k, k < 10 → parseFieldDescriptor (cT_CT k).2.2.1 = some (cY_CT k) := by decide +kernel
theorem nm_CT : ∀ a, a < 10 → ∀ b, b < 10 → a ≠ b → (cT_CT a).2.1 ≠ (cT_CT b).2.1 := by decide +kernel
theorem df_CT (base : Nat) : ∀ j, j < 10 → defaultValue (cY_CT j) = vp_V (hFld base (fun _ => 0) 0 [some none, some none, some none, some none, none, some none, some none, none, some none, none]) j := by
  intro j hj
  match j, hj with
  | 0, _ => rfl
  | 1, _ => rfl
  | 2, _ => rfl
  | 3, _ => rfl
  | 4, _ => rfl
  | 5, _ => rfl
  | 6, _ => rfl
  | 7, _ => rfl
  | 8, _ => rfl
  | 9, _ => rfl
  | j + 10, hj => omega
theorem ty_DI : ∀ k, k < 10 → parseFieldDescriptor (cT_DI k).2.2.1 = some (cY_DI k) := by decide +kernel
theorem nm_DI : ∀ a, a < 10 → ∀ b, b < 10 → a ≠ b → (cT_DI a).2.1 ≠ (cT_DI b).2.1 := by decide +kernel
theorem df_DI (base : Nat) : ∀ j, j < 10 → defaultValue (cY_DI j) = vp_V (hFld base (fun _ => 0) 0 [some none, some none, some none, some none, some none, some none, some none, none, none, none]) j := by
  intro j hj
  match j, hj with
  | 0, _ => rfl
  | 1, _ => rfl
  | 2, _ => rfl
  | 3, _ => rfl
  | 4, _ => rfl
  | 5, _ => rfl
  | 6, _ => rfl
  | 7, _ => rfl
  | 8, _ => rfl
  | 9, _ => rfl
  | j + 10, hj => omega
theorem ty_FB : ∀ k, k < 2 → parseFieldDescriptor (cT_FB k).2.2.1 = some (cY_FB k) := by decide +kernel
theorem nm_FB : ∀ a, a < 2 → ∀ b, b < 2 → a ≠ b → (cT_FB a).2.1 ≠ (cT_FB b).2.1 := by decide +kernel
theorem df_FB (base : Nat) : ∀ j, j < 2 → defaultValue (cY_FB j) = vp_V (hFld base (fun _ => 0) 0 [some none, none]) j := by
  intro j hj
  match j, hj with
  | 0, _ => rfl
  | 1, _ => rfl
  | j + 2, hj => omega
theorem ty_FI : ∀ k, k < 1 → parseFieldDescriptor (cT_FI k).2.2.1 = some (cY_FI k) := by decide +kernel
theorem nm_FI : ∀ a, a < 1 → ∀ b, b < 1 → a ≠ b → (cT_FI a).2.1 ≠ (cT_FI b).2.1 := by decide +kernel
theorem df_FI (base : Nat) : ∀ j, j < 1 → defaultValue (cY_FI j) = vp_V (hFld base (fun _ => 0) 0 [none]) j := by
  intro j hj
  match j, hj with
  | 0, _ => rfl
  | j + 1, hj => omega
theorem ty_RE : ∀ k, k < 4 → parseFieldDescriptor (cT_RE k).2.2.1 = some (cY_RE k) := by decide +kernel
theorem nm_RE : ∀ a, a < 4 → ∀ b, b < 4 → a ≠ b → (cT_RE a).2.1 ≠ (cT_RE b).2.1 := by decide +kernel
theorem df_RE (base : Nat) : ∀ j, j < 4 → defaultValue (cY_RE j) = vp_V (hFld base (fun _ => 0) 0 [some none, some none, some none, none]) j := by
  intro j hj
  match j, hj with
  | 0, _ => rfl
  | 1, _ => rfl
  | 2, _ => rfl
  | 3, _ => rfl
  | j + 4, hj => omega
theorem ty_ST : ∀ k, k < 2 → parseFieldDescriptor (cT_ST k).2.2.1 = some (cY_ST k) := by decide +kernel
theorem nm_ST : ∀ a, a < 2 → ∀ b, b < 2 → a ≠ b → (cT_ST a).2.1 ≠ (cT_ST b).2.1 := by decide +kernel
theorem df_ST (base : Nat) : ∀ j, j < 2 → defaultValue (cY_ST j) = vp_V (hFld base (fun _ => 0) 0 [some none, none]) j := by
  intro j hj
  match j, hj with
  | 0, _ => rfl
  | 1, _ => rfl
  | j + 2, hj => omega
theorem ty_WR : ∀ k, k < 15 → parseFieldDescriptor (cT_WR k).2.2.1 = some (cY_WR k) := by decide +kernel
theorem nm_WR : ∀ a, a < 15 → ∀ b, b < 15 → a ≠ b → (cT_WR a).2.1 ≠ (cT_WR b).2.1 := by decide +kernel
theorem df_WR (base : Nat) : ∀ j, j < 15 → defaultValue (cY_WR j) = vp_V (hFld base (fun _ => 0) 0 [some none, some none, some none, some none, some none, some none, some none, some none, some none, some none, some none, some none, none, none, none]) j := by
  intro j hj
  match j, hj with
  | 0, _ => rfl
  | 1, _ => rfl
  | 2, _ => rfl
  | 3, _ => rfl
  | 4, _ => rfl
  | 5, _ => rfl
  | 6, _ => rfl
  | 7, _ => rfl
  | 8, _ => rfl
  | 9, _ => rfl
  | 10, _ => rfl
  | 11, _ => rfl
  | 12, _ => rfl
  | 13, _ => rfl
  | 14, _ => rfl
  | j + 15, hj => omega
theorem ty_OF : ∀ k, k < 9 → parseFieldDescriptor (cT_OF k).2.2.1 = some (cY_OF k) := by decide +kernel
theorem nm_OF : ∀ a, a < 9 → ∀ b, b < 9 → a ≠ b → (cT_OF a).2.1 ≠ (cT_OF b).2.1 := by decide +kernel
theorem df_OF (base : Nat) : ∀ j, j < 9 → defaultValue (cY_OF j) = vp_V (hFld base (fun _ => 0) 0 [some none, some none, some none, some none, some none, some none, some none, some none, none]) j := by
  intro j hj
  match j, hj with
  | 0, _ => rfl
  | 1, _ => rfl
  | 2, _ => rfl
  | 3, _ => rfl
  | 4, _ => rfl
  | 5, _ => rfl
  | 6, _ => rfl
  | 7, _ => rfl
  | 8, _ => rfl
  | j + 9, hj => omega
theorem ty_MO : ∀ k, k < 41 → parseFieldDescriptor (cT_MO k).2.2.1 = some (cY_MO k) := by decide +kernel
theorem nm_MO : ∀ a, a < 41 → ∀ b, b < 41 → a ≠ b → (cT_MO a).2.1 ≠ (cT_MO b).2.1 := by decide +kernel
theorem df_MO (base : Nat) : ∀ j, j < 41 → defaultValue (cY_MO j) = vp_V (hFld base (fun _ => 0) 0 [some none, some none, some none, some none, some none, some none, some none, some none, some none, some none, some none, some none, some none, some none, some none, some none, some none, some none, some none, some none, none, some none, none, none, some none, some none, some none, some none, some none, some none, none, some none, none, some none, some none, some none, none, some none, some none, none, none]) j := by
  intro j hj
  match j, hj with
  | 0, _ => rfl
  | 1, _ => rfl
  | 2, _ => rfl
  | 3, _ => rfl
  | 4, _ => rfl
  | 5, _ => rfl
  | 6, _ => rfl
  | 7, _ => rfl
  | 8, _ => rfl
  | 9, _ => rfl
  | 10, _ => rfl
  | 11, _ => rfl
  | 12, _ => rfl
  | 13, _ => rfl
  | 14, _ => rfl
  | 15, _ => rfl
  | 16, _ => rfl
  | 17, _ => rfl
  | 18, _ => rfl
  | 19, _ => rfl
  | 20, _ => rfl
  | 21, _ => rfl
  | 22, _ => rfl
  | 23, _ => rfl
  | 24, _ => rfl
  | 25, _ => rfl
  | 26, _ => rfl
  | 27, _ => rfl
  | 28, _ => rfl
  | 29, _ => rfl
  | 30, _ => rfl
  | 31, _ => rfl
  | 32, _ => rfl
  | 33, _ => rfl
  | 34, _ => rfl
  | 35, _ => rfl
  | 36, _ => rfl
  | 37, _ => rfl
  | 38, _ => rfl
  | 39, _ => rfl
  | 40, _ => rfl
  | j + 41, hj => omega
theorem hp_OF_12 : hPk gCl gTs "ObjectFile" 12 7 0 true (.object "ObjectFile$Contents") := ⟨cT_OF, 9, cY_OF, rfl, in_OF, ty_OF, nm_OF, by decide, rfl, rfl, by decide +kernel, gT0 (gI1 233 rfl) rfl⟩
theorem hp_OF_16 : hPk gCl gTs "ObjectFile" 16 7 1 true (.object "ObjectFile$Contents") := ⟨cT_OF, 9, cY_OF, rfl, in_OF, ty_OF, nm_OF, by decide, rfl, rfl, by decide +kernel, gT0 (gI1 234 rfl) rfl⟩
theorem hp_OF_22 : hPk gCl gTs "ObjectFile" 22 7 2 true (.object "ObjectFile$FileBytes") := ⟨cT_OF, 9, cY_OF, rfl, in_OF, ty_OF, nm_OF, by decide, rfl, rfl, by decide +kernel, gT0 (gI1 235 rfl) rfl⟩
theorem hp_OF_31 : hPk gCl gTs "ObjectFile" 31 7 3 true (.object "ObjectFile$Writer") := ⟨cT_OF, 9, cY_OF, rfl, in_OF, ty_OF, nm_OF, by decide, rfl, rfl, by decide +kernel, gT0 (gI1 236 rfl) rfl⟩
theorem hp_OF_38 : hPk gCl gTs "ObjectFile" 38 7 4 true (.object "ObjectFile$Finding") := ⟨cT_OF, 9, cY_OF, rfl, in_OF, ty_OF, nm_OF, by decide, rfl, rfl, by decide +kernel, gT0 (gI1 237 rfl) rfl⟩
theorem hp_OF_47 : hPk gCl gTs "ObjectFile" 47 7 5 true (.object "ObjectFile$Directory") := ⟨cT_OF, 9, cY_OF, rfl, in_OF, ty_OF, nm_OF, by decide, rfl, rfl, by decide +kernel, gT0 (gI1 238 rfl) rfl⟩
theorem hp_OF_56 : hPk gCl gTs "ObjectFile" 56 7 6 true (.object "ObjectFile$Reader") := ⟨cT_OF, 9, cY_OF, rfl, in_OF, ty_OF, nm_OF, by decide, rfl, rfl, by decide +kernel, gT0 (gI1 239 rfl) rfl⟩
theorem hp_OF_60 : hPk gCl gTs "ObjectFile" 60 7 7 true (.array .byte) := ⟨cT_OF, 9, cY_OF, rfl, in_OF, ty_OF, nm_OF, by decide, rfl, rfl, by decide +kernel, gT0 (gI2 0 rfl) rfl⟩
theorem hp_CT_9 : hPk gCl gTs "ObjectFile$Contents" 9 0 0 true (.array .byte) := ⟨cT_CT, 10, cY_CT, rfl, in_CT, ty_CT, nm_CT, by decide, rfl, rfl, by decide +kernel, gT0 (gI1 31 rfl) rfl⟩
theorem hp_CT_15 : hPk gCl gTs "ObjectFile$Contents" 15 0 1 true (.array .int) := ⟨cT_CT, 10, cY_CT, rfl, in_CT, ty_CT, nm_CT, by decide, rfl, rfl, by decide +kernel, gT0 (gI1 34 rfl) rfl⟩
theorem hp_CT_19 : hPk gCl gTs "ObjectFile$Contents" 19 0 2 true (.array .int) := ⟨cT_CT, 10, cY_CT, rfl, in_CT, ty_CT, nm_CT, by decide, rfl, rfl, by decide +kernel, gT0 (gI1 38 rfl) rfl⟩
theorem hp_CT_22 : hPk gCl gTs "ObjectFile$Contents" 22 0 3 true (.array .int) := ⟨cT_CT, 10, cY_CT, rfl, in_CT, ty_CT, nm_CT, by decide, rfl, rfl, by decide +kernel, gT0 (gI1 42 rfl) rfl⟩
theorem hp_CT_25 : hPk gCl gTs "ObjectFile$Contents" 25 0 5 true (.array .int) := ⟨cT_CT, 10, cY_CT, rfl, in_CT, ty_CT, nm_CT, by decide, rfl, rfl, by decide +kernel, gT0 (gI1 46 rfl) rfl⟩
theorem hp_CT_28 : hPk gCl gTs "ObjectFile$Contents" 28 0 6 true (.array .byte) := ⟨cT_CT, 10, cY_CT, rfl, in_CT, ty_CT, nm_CT, by decide, rfl, rfl, by decide +kernel, gT0 (gI1 47 rfl) rfl⟩
theorem hp_CT_31 : hPk gCl gTs "ObjectFile$Contents" 31 0 8 true (.array .int) := ⟨cT_CT, 10, cY_CT, rfl, in_CT, ty_CT, nm_CT, by decide, rfl, rfl, by decide +kernel, gT0 (gI1 52 rfl) rfl⟩
theorem hp_DI_9 : hPk gCl gTs "ObjectFile$Directory" 9 1 2 true (.array .int) := ⟨cT_DI, 10, cY_DI, rfl, in_DI, ty_DI, nm_DI, by decide, rfl, rfl, by decide +kernel, gT0 (gI1 181 rfl) rfl⟩
theorem hp_DI_15 : hPk gCl gTs "ObjectFile$Directory" 15 1 3 true (.array .int) := ⟨cT_DI, 10, cY_DI, rfl, in_DI, ty_DI, nm_DI, by decide, rfl, rfl, by decide +kernel, gT0 (gI1 182 rfl) rfl⟩
theorem hp_DI_18 : hPk gCl gTs "ObjectFile$Directory" 18 1 4 true (.array .int) := ⟨cT_DI, 10, cY_DI, rfl, in_DI, ty_DI, nm_DI, by decide, rfl, rfl, by decide +kernel, gT0 (gI1 184 rfl) rfl⟩
theorem hp_DI_21 : hPk gCl gTs "ObjectFile$Directory" 21 1 5 true (.array .int) := ⟨cT_DI, 10, cY_DI, rfl, in_DI, ty_DI, nm_DI, by decide, rfl, rfl, by decide +kernel, gT0 (gI1 186 rfl) rfl⟩
theorem hp_DI_24 : hPk gCl gTs "ObjectFile$Directory" 24 1 6 true (.array .int) := ⟨cT_DI, 10, cY_DI, rfl, in_DI, ty_DI, nm_DI, by decide, rfl, rfl, by decide +kernel, gT0 (gI1 188 rfl) rfl⟩
theorem hp_DI_27 : hPk gCl gTs "ObjectFile$Directory" 27 1 0 true (.object "ObjectFile$FileBytes") := ⟨cT_DI, 10, cY_DI, rfl, in_DI, ty_DI, nm_DI, by decide, rfl, rfl, by decide +kernel, gT0 (gI1 179 rfl) rfl⟩
theorem hp_DI_31 : hPk gCl gTs "ObjectFile$Directory" 31 1 1 true (.object "ObjectFile$Finding") := ⟨cT_DI, 10, cY_DI, rfl, in_DI, ty_DI, nm_DI, by decide, rfl, rfl, by decide +kernel, gT0 (gI1 180 rfl) rfl⟩
theorem hp_FB_9 : hPk gCl gTs "ObjectFile$FileBytes" 9 2 0 true (.array .byte) := ⟨cT_FB, 2, cY_FB, rfl, in_FB, ty_FB, nm_FB, by decide, rfl, rfl, by decide +kernel, gT0 (gI1 85 rfl) rfl⟩
theorem hp_FI_9 : hPk gCl gTs "ObjectFile$Finding" 9 3 0 false (.int) := ⟨cT_FI, 1, cY_FI, rfl, in_FI, ty_FI, nm_FI, by decide, rfl, rfl, by decide +kernel, gT0 (gI1 168 rfl) rfl⟩
theorem hp_RE_9 : hPk gCl gTs "ObjectFile$Reader" 9 4 0 true (.object "ObjectFile$FileBytes") := ⟨cT_RE, 4, cY_RE, rfl, in_RE, ty_RE, nm_RE, by decide, rfl, rfl, by decide +kernel, gT0 (gI1 220 rfl) rfl⟩
theorem hp_RE_15 : hPk gCl gTs "ObjectFile$Reader" 15 4 1 true (.object "ObjectFile$Finding") := ⟨cT_RE, 4, cY_RE, rfl, in_RE, ty_RE, nm_RE, by decide, rfl, rfl, by decide +kernel, gT0 (gI1 221 rfl) rfl⟩
theorem hp_RE_19 : hPk gCl gTs "ObjectFile$Reader" 19 4 2 true (.object "ObjectFile$Directory") := ⟨cT_RE, 4, cY_RE, rfl, in_RE, ty_RE, nm_RE, by decide, rfl, rfl, by decide +kernel, gT0 (gI1 222 rfl) rfl⟩
theorem hp_ST_9 : hPk gCl gTs "ObjectFile$Strings" 9 5 0 true (.array .byte) := ⟨cT_ST, 2, cY_ST, rfl, in_ST, ty_ST, nm_ST, by decide, rfl, rfl, by decide +kernel, gT0 (gI1 107 rfl) rfl⟩
theorem hp_WR_12 : hPk gCl gTs "ObjectFile$Writer" 12 6 2 true (.object "ObjectFile$Strings") := ⟨cT_WR, 15, cY_WR, rfl, in_WR, ty_WR, nm_WR, by decide, rfl, rfl, by decide +kernel, gT0 (gI1 118 rfl) rfl⟩
theorem hp_WR_18 : hPk gCl gTs "ObjectFile$Writer" 18 6 3 true (.object "ObjectFile$Strings") := ⟨cT_WR, 15, cY_WR, rfl, in_WR, ty_WR, nm_WR, by decide, rfl, rfl, by decide +kernel, gT0 (gI1 119 rfl) rfl⟩
theorem hp_WR_21 : hPk gCl gTs "ObjectFile$Writer" 21 6 4 true (.array .byte) := ⟨cT_WR, 15, cY_WR, rfl, in_WR, ty_WR, nm_WR, by decide, rfl, rfl, by decide +kernel, gT0 (gI1 120 rfl) rfl⟩
theorem hp_WR_25 : hPk gCl gTs "ObjectFile$Writer" 25 6 5 true (.array .int) := ⟨cT_WR, 15, cY_WR, rfl, in_WR, ty_WR, nm_WR, by decide, rfl, rfl, by decide +kernel, gT0 (gI1 121 rfl) rfl⟩
theorem hp_WR_29 : hPk gCl gTs "ObjectFile$Writer" 29 6 6 true (.array .int) := ⟨cT_WR, 15, cY_WR, rfl, in_WR, ty_WR, nm_WR, by decide, rfl, rfl, by decide +kernel, gT0 (gI1 122 rfl) rfl⟩
theorem hp_WR_32 : hPk gCl gTs "ObjectFile$Writer" 32 6 7 true (.array .int) := ⟨cT_WR, 15, cY_WR, rfl, in_WR, ty_WR, nm_WR, by decide, rfl, rfl, by decide +kernel, gT0 (gI1 123 rfl) rfl⟩
theorem hp_WR_35 : hPk gCl gTs "ObjectFile$Writer" 35 6 8 true (.array .int) := ⟨cT_WR, 15, cY_WR, rfl, in_WR, ty_WR, nm_WR, by decide, rfl, rfl, by decide +kernel, gT0 (gI1 124 rfl) rfl⟩
theorem hp_WR_38 : hPk gCl gTs "ObjectFile$Writer" 38 6 9 true (.array .int) := ⟨cT_WR, 15, cY_WR, rfl, in_WR, ty_WR, nm_WR, by decide, rfl, rfl, by decide +kernel, gT0 (gI1 125 rfl) rfl⟩
theorem hp_WR_41 : hPk gCl gTs "ObjectFile$Writer" 41 6 10 true (.array .int) := ⟨cT_WR, 15, cY_WR, rfl, in_WR, ty_WR, nm_WR, by decide, rfl, rfl, by decide +kernel, gT0 (gI1 126 rfl) rfl⟩
theorem hp_WR_44 : hPk gCl gTs "ObjectFile$Writer" 44 6 11 true (.array .int) := ⟨cT_WR, 15, cY_WR, rfl, in_WR, ty_WR, nm_WR, by decide, rfl, rfl, by decide +kernel, gT0 (gI1 127 rfl) rfl⟩
theorem hp_WR_47 : hPk gCl gTs "ObjectFile$Writer" 47 6 0 true (.object "ObjectFile$Contents") := ⟨cT_WR, 15, cY_WR, rfl, in_WR, ty_WR, nm_WR, by decide, rfl, rfl, by decide +kernel, gT0 (gI1 116 rfl) rfl⟩
theorem hp_WR_51 : hPk gCl gTs "ObjectFile$Writer" 51 6 1 true (.object "ObjectFile$FileBytes") := ⟨cT_WR, 15, cY_WR, rfl, in_WR, ty_WR, nm_WR, by decide, rfl, rfl, by decide +kernel, gT0 (gI1 117 rfl) rfl⟩
theorem hp_MO_7 : hPk gCl gTs "ObjectFileModel" 7 8 0 true (.array .int) := ⟨cT_MO, 41, cY_MO, rfl, in_MO, ty_MO, nm_MO, by decide, rfl, rfl, by decide +kernel, gT0 (gI4 216 rfl) rfl⟩
theorem hp_MO_13 : hPk gCl gTs "ObjectFileModel" 13 8 1 true (.array .int) := ⟨cT_MO, 41, cY_MO, rfl, in_MO, ty_MO, nm_MO, by decide, rfl, rfl, by decide +kernel, gT0 (gI4 217 rfl) rfl⟩
theorem hp_MO_16 : hPk gCl gTs "ObjectFileModel" 16 8 2 true (.array .int) := ⟨cT_MO, 41, cY_MO, rfl, in_MO, ty_MO, nm_MO, by decide, rfl, rfl, by decide +kernel, gT0 (gI4 218 rfl) rfl⟩
theorem hp_MO_19 : hPk gCl gTs "ObjectFileModel" 19 8 3 true (.array .int) := ⟨cT_MO, 41, cY_MO, rfl, in_MO, ty_MO, nm_MO, by decide, rfl, rfl, by decide +kernel, gT0 (gI4 219 rfl) rfl⟩
theorem hp_MO_22 : hPk gCl gTs "ObjectFileModel" 22 8 4 true (.array .int) := ⟨cT_MO, 41, cY_MO, rfl, in_MO, ty_MO, nm_MO, by decide, rfl, rfl, by decide +kernel, gT0 (gI4 220 rfl) rfl⟩
theorem hp_MO_25 : hPk gCl gTs "ObjectFileModel" 25 8 5 true (.array .int) := ⟨cT_MO, 41, cY_MO, rfl, in_MO, ty_MO, nm_MO, by decide, rfl, rfl, by decide +kernel, gT0 (gI4 221 rfl) rfl⟩
theorem hp_MO_28 : hPk gCl gTs "ObjectFileModel" 28 8 6 true (.array .int) := ⟨cT_MO, 41, cY_MO, rfl, in_MO, ty_MO, nm_MO, by decide, rfl, rfl, by decide +kernel, gT0 (gI4 222 rfl) rfl⟩
theorem hp_MO_31 : hPk gCl gTs "ObjectFileModel" 31 8 7 true (.array .int) := ⟨cT_MO, 41, cY_MO, rfl, in_MO, ty_MO, nm_MO, by decide, rfl, rfl, by decide +kernel, gT0 (gI4 223 rfl) rfl⟩
theorem hp_MO_34 : hPk gCl gTs "ObjectFileModel" 34 8 8 true (.array .int) := ⟨cT_MO, 41, cY_MO, rfl, in_MO, ty_MO, nm_MO, by decide, rfl, rfl, by decide +kernel, gT0 (gI4 224 rfl) rfl⟩
theorem hp_MO_37 : hPk gCl gTs "ObjectFileModel" 37 8 9 true (.array .int) := ⟨cT_MO, 41, cY_MO, rfl, in_MO, ty_MO, nm_MO, by decide, rfl, rfl, by decide +kernel, gT0 (gI4 225 rfl) rfl⟩
theorem hp_MO_40 : hPk gCl gTs "ObjectFileModel" 40 8 10 true (.array .int) := ⟨cT_MO, 41, cY_MO, rfl, in_MO, ty_MO, nm_MO, by decide, rfl, rfl, by decide +kernel, gT0 (gI4 226 rfl) rfl⟩
theorem hp_MO_43 : hPk gCl gTs "ObjectFileModel" 43 8 11 true (.array .int) := ⟨cT_MO, 41, cY_MO, rfl, in_MO, ty_MO, nm_MO, by decide, rfl, rfl, by decide +kernel, gT0 (gI4 227 rfl) rfl⟩
theorem hp_MO_46 : hPk gCl gTs "ObjectFileModel" 46 8 12 true (.array .int) := ⟨cT_MO, 41, cY_MO, rfl, in_MO, ty_MO, nm_MO, by decide, rfl, rfl, by decide +kernel, gT0 (gI4 228 rfl) rfl⟩
theorem hp_MO_49 : hPk gCl gTs "ObjectFileModel" 49 8 13 true (.array .int) := ⟨cT_MO, 41, cY_MO, rfl, in_MO, ty_MO, nm_MO, by decide, rfl, rfl, by decide +kernel, gT0 (gI4 229 rfl) rfl⟩
theorem hp_MO_52 : hPk gCl gTs "ObjectFileModel" 52 8 14 true (.array .int) := ⟨cT_MO, 41, cY_MO, rfl, in_MO, ty_MO, nm_MO, by decide, rfl, rfl, by decide +kernel, gT0 (gI4 230 rfl) rfl⟩
theorem hp_MO_55 : hPk gCl gTs "ObjectFileModel" 55 8 15 true (.array .int) := ⟨cT_MO, 41, cY_MO, rfl, in_MO, ty_MO, nm_MO, by decide, rfl, rfl, by decide +kernel, gT0 (gI4 231 rfl) rfl⟩
theorem hp_MO_58 : hPk gCl gTs "ObjectFileModel" 58 8 16 true (.array .int) := ⟨cT_MO, 41, cY_MO, rfl, in_MO, ty_MO, nm_MO, by decide, rfl, rfl, by decide +kernel, gT0 (gI4 232 rfl) rfl⟩
theorem hp_MO_61 : hPk gCl gTs "ObjectFileModel" 61 8 17 true (.array .int) := ⟨cT_MO, 41, cY_MO, rfl, in_MO, ty_MO, nm_MO, by decide, rfl, rfl, by decide +kernel, gT0 (gI4 233 rfl) rfl⟩
theorem hp_MO_64 : hPk gCl gTs "ObjectFileModel" 64 8 18 true (.array .int) := ⟨cT_MO, 41, cY_MO, rfl, in_MO, ty_MO, nm_MO, by decide, rfl, rfl, by decide +kernel, gT0 (gI4 234 rfl) rfl⟩
theorem hp_MO_67 : hPk gCl gTs "ObjectFileModel" 67 8 19 true (.array .int) := ⟨cT_MO, 41, cY_MO, rfl, in_MO, ty_MO, nm_MO, by decide, rfl, rfl, by decide +kernel, gT0 (gI4 235 rfl) rfl⟩
theorem hp_MO_70 : hPk gCl gTs "ObjectFileModel" 70 8 21 true (.array .int) := ⟨cT_MO, 41, cY_MO, rfl, in_MO, ty_MO, nm_MO, by decide, rfl, rfl, by decide +kernel, gT0 (gI4 237 rfl) rfl⟩
theorem hp_MO_73 : hPk gCl gTs "ObjectFileModel" 73 8 23 false (.int) := ⟨cT_MO, 41, cY_MO, rfl, in_MO, ty_MO, nm_MO, by decide, rfl, rfl, by decide +kernel, gT0 (gI4 239 rfl) rfl⟩
theorem hp_MO_77 : hPk gCl gTs "ObjectFileModel" 77 8 24 true (.array .int) := ⟨cT_MO, 41, cY_MO, rfl, in_MO, ty_MO, nm_MO, by decide, rfl, rfl, by decide +kernel, gT0 (gI5 0 rfl) rfl⟩
theorem hp_MO_80 : hPk gCl gTs "ObjectFileModel" 80 8 25 true (.array .int) := ⟨cT_MO, 41, cY_MO, rfl, in_MO, ty_MO, nm_MO, by decide, rfl, rfl, by decide +kernel, gT0 (gI5 1 rfl) rfl⟩
theorem hp_MO_83 : hPk gCl gTs "ObjectFileModel" 83 8 26 true (.array .int) := ⟨cT_MO, 41, cY_MO, rfl, in_MO, ty_MO, nm_MO, by decide, rfl, rfl, by decide +kernel, gT0 (gI5 2 rfl) rfl⟩
theorem hp_MO_86 : hPk gCl gTs "ObjectFileModel" 86 8 27 true (.array .int) := ⟨cT_MO, 41, cY_MO, rfl, in_MO, ty_MO, nm_MO, by decide, rfl, rfl, by decide +kernel, gT0 (gI5 3 rfl) rfl⟩
theorem hp_MO_89 : hPk gCl gTs "ObjectFileModel" 89 8 28 true (.array .int) := ⟨cT_MO, 41, cY_MO, rfl, in_MO, ty_MO, nm_MO, by decide, rfl, rfl, by decide +kernel, gT0 (gI5 4 rfl) rfl⟩
theorem hp_MO_92 : hPk gCl gTs "ObjectFileModel" 92 8 29 true (.array .int) := ⟨cT_MO, 41, cY_MO, rfl, in_MO, ty_MO, nm_MO, by decide, rfl, rfl, by decide +kernel, gT0 (gI5 5 rfl) rfl⟩
theorem hp_MO_95 : hPk gCl gTs "ObjectFileModel" 95 8 31 true (.array .int) := ⟨cT_MO, 41, cY_MO, rfl, in_MO, ty_MO, nm_MO, by decide, rfl, rfl, by decide +kernel, gT0 (gI5 7 rfl) rfl⟩
theorem hp_MO_98 : hPk gCl gTs "ObjectFileModel" 98 8 33 true (.array .int) := ⟨cT_MO, 41, cY_MO, rfl, in_MO, ty_MO, nm_MO, by decide, rfl, rfl, by decide +kernel, gT0 (gI5 9 rfl) rfl⟩
theorem hp_MO_101 : hPk gCl gTs "ObjectFileModel" 101 8 34 true (.array .int) := ⟨cT_MO, 41, cY_MO, rfl, in_MO, ty_MO, nm_MO, by decide, rfl, rfl, by decide +kernel, gT0 (gI5 10 rfl) rfl⟩
theorem hp_MO_104 : hPk gCl gTs "ObjectFileModel" 104 8 35 true (.array .int) := ⟨cT_MO, 41, cY_MO, rfl, in_MO, ty_MO, nm_MO, by decide, rfl, rfl, by decide +kernel, gT0 (gI5 11 rfl) rfl⟩
theorem hp_MO_107 : hPk gCl gTs "ObjectFileModel" 107 8 37 true (.array .int) := ⟨cT_MO, 41, cY_MO, rfl, in_MO, ty_MO, nm_MO, by decide, rfl, rfl, by decide +kernel, gT0 (gI5 13 rfl) rfl⟩
theorem hp_MO_110 : hPk gCl gTs "ObjectFileModel" 110 8 38 true (.array .int) := ⟨cT_MO, 41, cY_MO, rfl, in_MO, ty_MO, nm_MO, by decide, rfl, rfl, by decide +kernel, gT0 (gI5 14 rfl) rfl⟩
theorem tw_obj : Cond.code objectInit ⟨#[0xb1]⟩ 1 none ∈ gTs := gT0 (gI1 24 rfl) rfl
theorem mw_CT_init : gMw gTs y_CT_init b_CT_init 1 none 0 := ⟨gT0 (gI1 29 rfl) rfl, gT0 (gI1 2 rfl) rfl, by decide, by decide, by decide +kernel⟩
theorem mi_CT_init : Cond.instanceMethod y_CT_init ∈ gTs := gT0 (gI1 28 rfl) rfl
theorem mw_FB_init : gMw gTs y_FB_init b_FB_init 1 none 0 := ⟨gT0 (gI1 83 rfl) rfl, gT0 (gI1 3 rfl) rfl, by decide, by decide, by decide +kernel⟩
theorem mi_FB_init : Cond.instanceMethod y_FB_init ∈ gTs := gT0 (gI1 82 rfl) rfl
theorem mw_ST_init : gMw gTs y_ST_init b_ST_init 1 none 0 := ⟨gT0 (gI1 105 rfl) rfl, gT0 (gI1 5 rfl) rfl, by decide, by decide, by decide +kernel⟩
theorem mi_ST_init : Cond.instanceMethod y_ST_init ∈ gTs := gT0 (gI1 104 rfl) rfl
theorem mw_WR_init : gMw gTs y_WR_init b_WR_init 3 none 2 := ⟨gT0 (gI1 99 rfl) rfl, gT0 (gI1 4 rfl) rfl, by decide, by decide, by decide +kernel⟩
theorem mi_WR_init : Cond.instanceMethod y_WR_init ∈ gTs := gT0 (gI1 98 rfl) rfl
theorem mw_FI_init : gMw gTs y_FI_init b_FI_init 1 none 0 := ⟨gT0 (gI1 166 rfl) rfl, gT0 (gI1 6 rfl) rfl, by decide, by decide, by decide +kernel⟩
theorem mi_FI_init : Cond.instanceMethod y_FI_init ∈ gTs := gT0 (gI1 165 rfl) rfl
theorem mw_DI_init : gMw gTs y_DI_init b_DI_init 3 none 2 := ⟨gT0 (gI1 177 rfl) rfl, gT0 (gI1 7 rfl) rfl, by decide, by decide, by decide +kernel⟩
theorem mi_DI_init : Cond.instanceMethod y_DI_init ∈ gTs := gT0 (gI1 176 rfl) rfl
theorem mw_RE_init : gMw gTs y_RE_init b_RE_init 4 none 3 := ⟨gT0 (gI1 218 rfl) rfl, gT0 (gI1 8 rfl) rfl, by decide, by decide, by decide +kernel⟩
theorem mi_RE_init : Cond.instanceMethod y_RE_init ∈ gTs := gT0 (gI1 217 rfl) rfl
theorem mw_OF_init : gMw gTs y_OF_init b_OF_init 1 none 0 := ⟨gT0 (gI1 21 rfl) rfl, gT0 (gI1 1 rfl) rfl, by decide, by decide, by decide +kernel⟩
theorem mi_OF_init : Cond.instanceMethod y_OF_init ∈ gTs := gT0 (gI1 20 rfl) rfl
theorem mw_MO_init : gMw gTs y_MO_init b_MO_init 2 none 0 := ⟨gT0 (gI4 206 rfl) rfl, gT0 (gI1 9 rfl) rfl, by decide, by decide, by decide +kernel⟩
theorem mi_MO_init : Cond.instanceMethod y_MO_init ∈ gTs := gT0 (gI4 205 rfl) rfl
theorem dCT_init_0 : decode b_CT_init 0 = .ok (.aload_n 0, 1) ∧ 0 + 1 = 1 := ⟨by decide +kernel, rfl⟩
theorem dCT_init_1 : decode b_CT_init 1 = .ok (.invokespecial 3, 3) ∧ 1 + 3 = 4 := ⟨by decide +kernel, rfl⟩
theorem dCT_init_4 : decode b_CT_init 4 = .ok (.aload_n 0, 1) ∧ 4 + 1 = 5 := ⟨by decide +kernel, rfl⟩
theorem dCT_init_5 : decode b_CT_init 5 = .ok (.sipush (6144), 3) ∧ 5 + 3 = 8 := ⟨by decide +kernel, rfl⟩
theorem dCT_init_8 : decode b_CT_init 8 = .ok (.newarray .byte, 2) ∧ 8 + 2 = 10 := ⟨by decide +kernel, rfl⟩
theorem dCT_init_10 : decode b_CT_init 10 = .ok (.putfield 9, 3) ∧ 10 + 3 = 13 := ⟨by decide +kernel, rfl⟩
theorem dCT_init_13 : decode b_CT_init 13 = .ok (.aload_n 0, 1) ∧ 13 + 1 = 14 := ⟨by decide +kernel, rfl⟩
theorem dCT_init_14 : decode b_CT_init 14 = .ok (.iconst 4, 1) ∧ 14 + 1 = 15 := ⟨by decide +kernel, rfl⟩
theorem dCT_init_15 : decode b_CT_init 15 = .ok (.newarray .int, 2) ∧ 15 + 2 = 17 := ⟨by decide +kernel, rfl⟩
theorem dCT_init_17 : decode b_CT_init 17 = .ok (.putfield 15, 3) ∧ 17 + 3 = 20 := ⟨by decide +kernel, rfl⟩
theorem dCT_init_20 : decode b_CT_init 20 = .ok (.aload_n 0, 1) ∧ 20 + 1 = 21 := ⟨by decide +kernel, rfl⟩
theorem dCT_init_21 : decode b_CT_init 21 = .ok (.iconst 4, 1) ∧ 21 + 1 = 22 := ⟨by decide +kernel, rfl⟩
theorem dCT_init_22 : decode b_CT_init 22 = .ok (.newarray .int, 2) ∧ 22 + 2 = 24 := ⟨by decide +kernel, rfl⟩
theorem dCT_init_24 : decode b_CT_init 24 = .ok (.dup, 1) ∧ 24 + 1 = 25 := ⟨by decide +kernel, rfl⟩
theorem dCT_init_25 : decode b_CT_init 25 = .ok (.iconst 0, 1) ∧ 25 + 1 = 26 := ⟨by decide +kernel, rfl⟩
theorem dCT_init_26 : decode b_CT_init 26 = .ok (.iconst 1, 1) ∧ 26 + 1 = 27 := ⟨by decide +kernel, rfl⟩
theorem dCT_init_27 : decode b_CT_init 27 = .ok (.iastore, 1) ∧ 27 + 1 = 28 := ⟨by decide +kernel, rfl⟩
theorem dCT_init_28 : decode b_CT_init 28 = .ok (.dup, 1) ∧ 28 + 1 = 29 := ⟨by decide +kernel, rfl⟩
theorem dCT_init_29 : decode b_CT_init 29 = .ok (.iconst 1, 1) ∧ 29 + 1 = 30 := ⟨by decide +kernel, rfl⟩
theorem dCT_init_30 : decode b_CT_init 30 = .ok (.iconst 1, 1) ∧ 30 + 1 = 31 := ⟨by decide +kernel, rfl⟩
theorem dCT_init_31 : decode b_CT_init 31 = .ok (.iastore, 1) ∧ 31 + 1 = 32 := ⟨by decide +kernel, rfl⟩
theorem dCT_init_32 : decode b_CT_init 32 = .ok (.dup, 1) ∧ 32 + 1 = 33 := ⟨by decide +kernel, rfl⟩
theorem dCT_init_33 : decode b_CT_init 33 = .ok (.iconst 2, 1) ∧ 33 + 1 = 34 := ⟨by decide +kernel, rfl⟩
theorem dCT_init_34 : decode b_CT_init 34 = .ok (.iconst 1, 1) ∧ 34 + 1 = 35 := ⟨by decide +kernel, rfl⟩
theorem dCT_init_35 : decode b_CT_init 35 = .ok (.iastore, 1) ∧ 35 + 1 = 36 := ⟨by decide +kernel, rfl⟩
theorem dCT_init_36 : decode b_CT_init 36 = .ok (.dup, 1) ∧ 36 + 1 = 37 := ⟨by decide +kernel, rfl⟩
theorem dCT_init_37 : decode b_CT_init 37 = .ok (.iconst 3, 1) ∧ 37 + 1 = 38 := ⟨by decide +kernel, rfl⟩
theorem dCT_init_38 : decode b_CT_init 38 = .ok (.iconst 1, 1) ∧ 38 + 1 = 39 := ⟨by decide +kernel, rfl⟩
theorem dCT_init_39 : decode b_CT_init 39 = .ok (.iastore, 1) ∧ 39 + 1 = 40 := ⟨by decide +kernel, rfl⟩
theorem dCT_init_40 : decode b_CT_init 40 = .ok (.putfield 19, 3) ∧ 40 + 3 = 43 := ⟨by decide +kernel, rfl⟩
theorem dCT_init_43 : decode b_CT_init 43 = .ok (.aload_n 0, 1) ∧ 43 + 1 = 44 := ⟨by decide +kernel, rfl⟩
theorem dCT_init_44 : decode b_CT_init 44 = .ok (.sipush (1024), 3) ∧ 44 + 3 = 47 := ⟨by decide +kernel, rfl⟩
theorem dCT_init_47 : decode b_CT_init 47 = .ok (.newarray .int, 2) ∧ 47 + 2 = 49 := ⟨by decide +kernel, rfl⟩
theorem dCT_init_49 : decode b_CT_init 49 = .ok (.putfield 22, 3) ∧ 49 + 3 = 52 := ⟨by decide +kernel, rfl⟩
theorem dCT_init_52 : decode b_CT_init 52 = .ok (.aload_n 0, 1) ∧ 52 + 1 = 53 := ⟨by decide +kernel, rfl⟩
theorem dCT_init_53 : decode b_CT_init 53 = .ok (.sipush (600), 3) ∧ 53 + 3 = 56 := ⟨by decide +kernel, rfl⟩
theorem dCT_init_56 : decode b_CT_init 56 = .ok (.newarray .int, 2) ∧ 56 + 2 = 58 := ⟨by decide +kernel, rfl⟩
theorem dCT_init_58 : decode b_CT_init 58 = .ok (.putfield 25, 3) ∧ 58 + 3 = 61 := ⟨by decide +kernel, rfl⟩
theorem dCT_init_61 : decode b_CT_init 61 = .ok (.aload_n 0, 1) ∧ 61 + 1 = 62 := ⟨by decide +kernel, rfl⟩
theorem dCT_init_62 : decode b_CT_init 62 = .ok (.sipush (1600), 3) ∧ 62 + 3 = 65 := ⟨by decide +kernel, rfl⟩
theorem dCT_init_65 : decode b_CT_init 65 = .ok (.newarray .byte, 2) ∧ 65 + 2 = 67 := ⟨by decide +kernel, rfl⟩
theorem dCT_init_67 : decode b_CT_init 67 = .ok (.putfield 28, 3) ∧ 67 + 3 = 70 := ⟨by decide +kernel, rfl⟩
theorem dCT_init_70 : decode b_CT_init 70 = .ok (.aload_n 0, 1) ∧ 70 + 1 = 71 := ⟨by decide +kernel, rfl⟩
theorem dCT_init_71 : decode b_CT_init 71 = .ok (.sipush (1500), 3) ∧ 71 + 3 = 74 := ⟨by decide +kernel, rfl⟩
theorem dCT_init_74 : decode b_CT_init 74 = .ok (.newarray .int, 2) ∧ 74 + 2 = 76 := ⟨by decide +kernel, rfl⟩
theorem dCT_init_76 : decode b_CT_init 76 = .ok (.putfield 31, 3) ∧ 76 + 3 = 79 := ⟨by decide +kernel, rfl⟩
theorem dCT_init_79 : decode b_CT_init 79 = .ok (.return_, 1) ∧ 79 + 1 = 80 := ⟨by decide +kernel, rfl⟩
theorem dDI_init_0 : decode b_DI_init 0 = .ok (.aload_n 0, 1) ∧ 0 + 1 = 1 := ⟨by decide +kernel, rfl⟩
theorem dDI_init_1 : decode b_DI_init 1 = .ok (.invokespecial 3, 3) ∧ 1 + 3 = 4 := ⟨by decide +kernel, rfl⟩
theorem dDI_init_4 : decode b_DI_init 4 = .ok (.aload_n 0, 1) ∧ 4 + 1 = 5 := ⟨by decide +kernel, rfl⟩
theorem dDI_init_5 : decode b_DI_init 5 = .ok (.bipush (16), 2) ∧ 5 + 2 = 7 := ⟨by decide +kernel, rfl⟩
theorem dDI_init_7 : decode b_DI_init 7 = .ok (.newarray .int, 2) ∧ 7 + 2 = 9 := ⟨by decide +kernel, rfl⟩
theorem dDI_init_9 : decode b_DI_init 9 = .ok (.putfield 9, 3) ∧ 9 + 3 = 12 := ⟨by decide +kernel, rfl⟩
theorem dDI_init_12 : decode b_DI_init 12 = .ok (.aload_n 0, 1) ∧ 12 + 1 = 13 := ⟨by decide +kernel, rfl⟩
theorem dDI_init_13 : decode b_DI_init 13 = .ok (.bipush (11), 2) ∧ 13 + 2 = 15 := ⟨by decide +kernel, rfl⟩
theorem dDI_init_15 : decode b_DI_init 15 = .ok (.newarray .int, 2) ∧ 15 + 2 = 17 := ⟨by decide +kernel, rfl⟩
theorem dDI_init_17 : decode b_DI_init 17 = .ok (.putfield 15, 3) ∧ 17 + 3 = 20 := ⟨by decide +kernel, rfl⟩
theorem dDI_init_20 : decode b_DI_init 20 = .ok (.aload_n 0, 1) ∧ 20 + 1 = 21 := ⟨by decide +kernel, rfl⟩
theorem dDI_init_21 : decode b_DI_init 21 = .ok (.bipush (11), 2) ∧ 21 + 2 = 23 := ⟨by decide +kernel, rfl⟩
theorem dDI_init_23 : decode b_DI_init 23 = .ok (.newarray .int, 2) ∧ 23 + 2 = 25 := ⟨by decide +kernel, rfl⟩
theorem dDI_init_25 : decode b_DI_init 25 = .ok (.putfield 18, 3) ∧ 25 + 3 = 28 := ⟨by decide +kernel, rfl⟩
theorem dDI_init_28 : decode b_DI_init 28 = .ok (.aload_n 0, 1) ∧ 28 + 1 = 29 := ⟨by decide +kernel, rfl⟩
theorem dDI_init_29 : decode b_DI_init 29 = .ok (.bipush (11), 2) ∧ 29 + 2 = 31 := ⟨by decide +kernel, rfl⟩
theorem dDI_init_31 : decode b_DI_init 31 = .ok (.newarray .int, 2) ∧ 31 + 2 = 33 := ⟨by decide +kernel, rfl⟩
theorem dDI_init_33 : decode b_DI_init 33 = .ok (.putfield 21, 3) ∧ 33 + 3 = 36 := ⟨by decide +kernel, rfl⟩
theorem dDI_init_36 : decode b_DI_init 36 = .ok (.aload_n 0, 1) ∧ 36 + 1 = 37 := ⟨by decide +kernel, rfl⟩
theorem dDI_init_37 : decode b_DI_init 37 = .ok (.bipush (11), 2) ∧ 37 + 2 = 39 := ⟨by decide +kernel, rfl⟩
theorem dDI_init_39 : decode b_DI_init 39 = .ok (.newarray .int, 2) ∧ 39 + 2 = 41 := ⟨by decide +kernel, rfl⟩
theorem dDI_init_41 : decode b_DI_init 41 = .ok (.putfield 24, 3) ∧ 41 + 3 = 44 := ⟨by decide +kernel, rfl⟩
theorem dDI_init_44 : decode b_DI_init 44 = .ok (.aload_n 0, 1) ∧ 44 + 1 = 45 := ⟨by decide +kernel, rfl⟩
theorem dDI_init_45 : decode b_DI_init 45 = .ok (.aload_n 1, 1) ∧ 45 + 1 = 46 := ⟨by decide +kernel, rfl⟩
theorem dDI_init_46 : decode b_DI_init 46 = .ok (.putfield 27, 3) ∧ 46 + 3 = 49 := ⟨by decide +kernel, rfl⟩
theorem dDI_init_49 : decode b_DI_init 49 = .ok (.aload_n 0, 1) ∧ 49 + 1 = 50 := ⟨by decide +kernel, rfl⟩
theorem dDI_init_50 : decode b_DI_init 50 = .ok (.aload_n 2, 1) ∧ 50 + 1 = 51 := ⟨by decide +kernel, rfl⟩
theorem dDI_init_51 : decode b_DI_init 51 = .ok (.putfield 31, 3) ∧ 51 + 3 = 54 := ⟨by decide +kernel, rfl⟩
theorem dDI_init_54 : decode b_DI_init 54 = .ok (.return_, 1) ∧ 54 + 1 = 55 := ⟨by decide +kernel, rfl⟩
theorem dFB_init_0 : decode b_FB_init 0 = .ok (.aload_n 0, 1) ∧ 0 + 1 = 1 := ⟨by decide +kernel, rfl⟩
theorem dFB_init_1 : decode b_FB_init 1 = .ok (.invokespecial 3, 3) ∧ 1 + 3 = 4 := ⟨by decide +kernel, rfl⟩
theorem dFB_init_4 : decode b_FB_init 4 = .ok (.aload_n 0, 1) ∧ 4 + 1 = 5 := ⟨by decide +kernel, rfl⟩
theorem dFB_init_5 : decode b_FB_init 5 = .ok (.sipush (8192), 3) ∧ 5 + 3 = 8 := ⟨by decide +kernel, rfl⟩
theorem dFB_init_8 : decode b_FB_init 8 = .ok (.newarray .byte, 2) ∧ 8 + 2 = 10 := ⟨by decide +kernel, rfl⟩
theorem dFB_init_10 : decode b_FB_init 10 = .ok (.putfield 9, 3) ∧ 10 + 3 = 13 := ⟨by decide +kernel, rfl⟩
theorem dFB_init_13 : decode b_FB_init 13 = .ok (.return_, 1) ∧ 13 + 1 = 14 := ⟨by decide +kernel, rfl⟩
theorem dFI_init_0 : decode b_FI_init 0 = .ok (.aload_n 0, 1) ∧ 0 + 1 = 1 := ⟨by decide +kernel, rfl⟩
theorem dFI_init_1 : decode b_FI_init 1 = .ok (.invokespecial 3, 3) ∧ 1 + 3 = 4 := ⟨by decide +kernel, rfl⟩
theorem dFI_init_4 : decode b_FI_init 4 = .ok (.aload_n 0, 1) ∧ 4 + 1 = 5 := ⟨by decide +kernel, rfl⟩
theorem dFI_init_5 : decode b_FI_init 5 = .ok (.iconst (-1), 1) ∧ 5 + 1 = 6 := ⟨by decide +kernel, rfl⟩
theorem dFI_init_6 : decode b_FI_init 6 = .ok (.putfield 9, 3) ∧ 6 + 3 = 9 := ⟨by decide +kernel, rfl⟩
theorem dFI_init_9 : decode b_FI_init 9 = .ok (.return_, 1) ∧ 9 + 1 = 10 := ⟨by decide +kernel, rfl⟩
theorem dMO_init_0 : decode b_MO_init 0 = .ok (.aload_n 0, 1) ∧ 0 + 1 = 1 := ⟨by decide +kernel, rfl⟩
theorem dMO_init_1 : decode b_MO_init 1 = .ok (.invokespecial 1, 3) ∧ 1 + 3 = 4 := ⟨by decide +kernel, rfl⟩
theorem dMO_init_4 : decode b_MO_init 4 = .ok (.aload_n 0, 1) ∧ 4 + 1 = 5 := ⟨by decide +kernel, rfl⟩
theorem dMO_init_5 : decode b_MO_init 5 = .ok (.sipush (12288), 3) ∧ 5 + 3 = 8 := ⟨by decide +kernel, rfl⟩
theorem dMO_init_8 : decode b_MO_init 8 = .ok (.newarray .int, 2) ∧ 8 + 2 = 10 := ⟨by decide +kernel, rfl⟩
theorem dMO_init_10 : decode b_MO_init 10 = .ok (.putfield 7, 3) ∧ 10 + 3 = 13 := ⟨by decide +kernel, rfl⟩
theorem dMO_init_13 : decode b_MO_init 13 = .ok (.aload_n 0, 1) ∧ 13 + 1 = 14 := ⟨by decide +kernel, rfl⟩
theorem dMO_init_14 : decode b_MO_init 14 = .ok (.bipush (8), 2) ∧ 14 + 2 = 16 := ⟨by decide +kernel, rfl⟩
theorem dMO_init_16 : decode b_MO_init 16 = .ok (.newarray .int, 2) ∧ 16 + 2 = 18 := ⟨by decide +kernel, rfl⟩
theorem dMO_init_18 : decode b_MO_init 18 = .ok (.putfield 13, 3) ∧ 18 + 3 = 21 := ⟨by decide +kernel, rfl⟩
theorem dMO_init_21 : decode b_MO_init 21 = .ok (.aload_n 0, 1) ∧ 21 + 1 = 22 := ⟨by decide +kernel, rfl⟩
theorem dMO_init_22 : decode b_MO_init 22 = .ok (.bipush (8), 2) ∧ 22 + 2 = 24 := ⟨by decide +kernel, rfl⟩
theorem dMO_init_24 : decode b_MO_init 24 = .ok (.newarray .int, 2) ∧ 24 + 2 = 26 := ⟨by decide +kernel, rfl⟩
theorem dMO_init_26 : decode b_MO_init 26 = .ok (.putfield 16, 3) ∧ 26 + 3 = 29 := ⟨by decide +kernel, rfl⟩
theorem dMO_init_29 : decode b_MO_init 29 = .ok (.aload_n 0, 1) ∧ 29 + 1 = 30 := ⟨by decide +kernel, rfl⟩
theorem dMO_init_30 : decode b_MO_init 30 = .ok (.sipush (2048), 3) ∧ 30 + 3 = 33 := ⟨by decide +kernel, rfl⟩
theorem dMO_init_33 : decode b_MO_init 33 = .ok (.newarray .int, 2) ∧ 33 + 2 = 35 := ⟨by decide +kernel, rfl⟩
theorem dMO_init_35 : decode b_MO_init 35 = .ok (.putfield 19, 3) ∧ 35 + 3 = 38 := ⟨by decide +kernel, rfl⟩
theorem dMO_init_38 : decode b_MO_init 38 = .ok (.aload_n 0, 1) ∧ 38 + 1 = 39 := ⟨by decide +kernel, rfl⟩
theorem dMO_init_39 : decode b_MO_init 39 = .ok (.iconst 2, 1) ∧ 39 + 1 = 40 := ⟨by decide +kernel, rfl⟩
theorem dMO_init_40 : decode b_MO_init 40 = .ok (.newarray .int, 2) ∧ 40 + 2 = 42 := ⟨by decide +kernel, rfl⟩
theorem dMO_init_42 : decode b_MO_init 42 = .ok (.putfield 22, 3) ∧ 42 + 3 = 45 := ⟨by decide +kernel, rfl⟩
theorem dMO_init_45 : decode b_MO_init 45 = .ok (.aload_n 0, 1) ∧ 45 + 1 = 46 := ⟨by decide +kernel, rfl⟩
theorem dMO_init_46 : decode b_MO_init 46 = .ok (.sipush (200), 3) ∧ 46 + 3 = 49 := ⟨by decide +kernel, rfl⟩
theorem dMO_init_49 : decode b_MO_init 49 = .ok (.newarray .int, 2) ∧ 49 + 2 = 51 := ⟨by decide +kernel, rfl⟩
theorem dMO_init_51 : decode b_MO_init 51 = .ok (.putfield 25, 3) ∧ 51 + 3 = 54 := ⟨by decide +kernel, rfl⟩
theorem dMO_init_54 : decode b_MO_init 54 = .ok (.aload_n 0, 1) ∧ 54 + 1 = 55 := ⟨by decide +kernel, rfl⟩
theorem dMO_init_55 : decode b_MO_init 55 = .ok (.sipush (200), 3) ∧ 55 + 3 = 58 := ⟨by decide +kernel, rfl⟩
theorem dMO_init_58 : decode b_MO_init 58 = .ok (.newarray .int, 2) ∧ 58 + 2 = 60 := ⟨by decide +kernel, rfl⟩
theorem dMO_init_60 : decode b_MO_init 60 = .ok (.putfield 28, 3) ∧ 60 + 3 = 63 := ⟨by decide +kernel, rfl⟩
theorem dMO_init_63 : decode b_MO_init 63 = .ok (.aload_n 0, 1) ∧ 63 + 1 = 64 := ⟨by decide +kernel, rfl⟩
theorem dMO_init_64 : decode b_MO_init 64 = .ok (.sipush (200), 3) ∧ 64 + 3 = 67 := ⟨by decide +kernel, rfl⟩
theorem dMO_init_67 : decode b_MO_init 67 = .ok (.newarray .int, 2) ∧ 67 + 2 = 69 := ⟨by decide +kernel, rfl⟩
theorem dMO_init_69 : decode b_MO_init 69 = .ok (.putfield 31, 3) ∧ 69 + 3 = 72 := ⟨by decide +kernel, rfl⟩
theorem dMO_init_72 : decode b_MO_init 72 = .ok (.aload_n 0, 1) ∧ 72 + 1 = 73 := ⟨by decide +kernel, rfl⟩
theorem dMO_init_73 : decode b_MO_init 73 = .ok (.sipush (200), 3) ∧ 73 + 3 = 76 := ⟨by decide +kernel, rfl⟩
theorem dMO_init_76 : decode b_MO_init 76 = .ok (.newarray .int, 2) ∧ 76 + 2 = 78 := ⟨by decide +kernel, rfl⟩
theorem dMO_init_78 : decode b_MO_init 78 = .ok (.putfield 34, 3) ∧ 78 + 3 = 81 := ⟨by decide +kernel, rfl⟩
theorem dMO_init_81 : decode b_MO_init 81 = .ok (.aload_n 0, 1) ∧ 81 + 1 = 82 := ⟨by decide +kernel, rfl⟩
theorem dMO_init_82 : decode b_MO_init 82 = .ok (.sipush (200), 3) ∧ 82 + 3 = 85 := ⟨by decide +kernel, rfl⟩
theorem dMO_init_85 : decode b_MO_init 85 = .ok (.newarray .int, 2) ∧ 85 + 2 = 87 := ⟨by decide +kernel, rfl⟩
theorem dMO_init_87 : decode b_MO_init 87 = .ok (.putfield 37, 3) ∧ 87 + 3 = 90 := ⟨by decide +kernel, rfl⟩
theorem dMO_init_90 : decode b_MO_init 90 = .ok (.aload_n 0, 1) ∧ 90 + 1 = 91 := ⟨by decide +kernel, rfl⟩
theorem dMO_init_91 : decode b_MO_init 91 = .ok (.sipush (200), 3) ∧ 91 + 3 = 94 := ⟨by decide +kernel, rfl⟩
theorem dMO_init_94 : decode b_MO_init 94 = .ok (.newarray .int, 2) ∧ 94 + 2 = 96 := ⟨by decide +kernel, rfl⟩
theorem dMO_init_96 : decode b_MO_init 96 = .ok (.putfield 40, 3) ∧ 96 + 3 = 99 := ⟨by decide +kernel, rfl⟩
theorem dMO_init_99 : decode b_MO_init 99 = .ok (.aload_n 0, 1) ∧ 99 + 1 = 100 := ⟨by decide +kernel, rfl⟩
theorem dMO_init_100 : decode b_MO_init 100 = .ok (.sipush (3200), 3) ∧ 100 + 3 = 103 := ⟨by decide +kernel, rfl⟩
theorem dMO_init_103 : decode b_MO_init 103 = .ok (.newarray .int, 2) ∧ 103 + 2 = 105 := ⟨by decide +kernel, rfl⟩
theorem dMO_init_105 : decode b_MO_init 105 = .ok (.putfield 43, 3) ∧ 105 + 3 = 108 := ⟨by decide +kernel, rfl⟩
theorem dMO_init_108 : decode b_MO_init 108 = .ok (.aload_n 0, 1) ∧ 108 + 1 = 109 := ⟨by decide +kernel, rfl⟩
theorem dMO_init_109 : decode b_MO_init 109 = .ok (.iconst 2, 1) ∧ 109 + 1 = 110 := ⟨by decide +kernel, rfl⟩
theorem dMO_init_110 : decode b_MO_init 110 = .ok (.newarray .int, 2) ∧ 110 + 2 = 112 := ⟨by decide +kernel, rfl⟩
theorem dMO_init_112 : decode b_MO_init 112 = .ok (.putfield 46, 3) ∧ 112 + 3 = 115 := ⟨by decide +kernel, rfl⟩
theorem dMO_init_115 : decode b_MO_init 115 = .ok (.aload_n 0, 1) ∧ 115 + 1 = 116 := ⟨by decide +kernel, rfl⟩
theorem dMO_init_116 : decode b_MO_init 116 = .ok (.sipush (600), 3) ∧ 116 + 3 = 119 := ⟨by decide +kernel, rfl⟩
theorem dMO_init_119 : decode b_MO_init 119 = .ok (.newarray .int, 2) ∧ 119 + 2 = 121 := ⟨by decide +kernel, rfl⟩
theorem dMO_init_121 : decode b_MO_init 121 = .ok (.putfield 49, 3) ∧ 121 + 3 = 124 := ⟨by decide +kernel, rfl⟩
theorem dMO_init_124 : decode b_MO_init 124 = .ok (.aload_n 0, 1) ∧ 124 + 1 = 125 := ⟨by decide +kernel, rfl⟩
theorem dMO_init_125 : decode b_MO_init 125 = .ok (.sipush (600), 3) ∧ 125 + 3 = 128 := ⟨by decide +kernel, rfl⟩
theorem dMO_init_128 : decode b_MO_init 128 = .ok (.newarray .int, 2) ∧ 128 + 2 = 130 := ⟨by decide +kernel, rfl⟩
theorem dMO_init_130 : decode b_MO_init 130 = .ok (.putfield 52, 3) ∧ 130 + 3 = 133 := ⟨by decide +kernel, rfl⟩
theorem dMO_init_133 : decode b_MO_init 133 = .ok (.aload_n 0, 1) ∧ 133 + 1 = 134 := ⟨by decide +kernel, rfl⟩
theorem dMO_init_134 : decode b_MO_init 134 = .ok (.sipush (600), 3) ∧ 134 + 3 = 137 := ⟨by decide +kernel, rfl⟩
theorem dMO_init_137 : decode b_MO_init 137 = .ok (.newarray .int, 2) ∧ 137 + 2 = 139 := ⟨by decide +kernel, rfl⟩
theorem dMO_init_139 : decode b_MO_init 139 = .ok (.putfield 55, 3) ∧ 139 + 3 = 142 := ⟨by decide +kernel, rfl⟩
theorem dMO_init_142 : decode b_MO_init 142 = .ok (.aload_n 0, 1) ∧ 142 + 1 = 143 := ⟨by decide +kernel, rfl⟩
theorem dMO_init_143 : decode b_MO_init 143 = .ok (.sipush (600), 3) ∧ 143 + 3 = 146 := ⟨by decide +kernel, rfl⟩
theorem dMO_init_146 : decode b_MO_init 146 = .ok (.newarray .int, 2) ∧ 146 + 2 = 148 := ⟨by decide +kernel, rfl⟩
theorem dMO_init_148 : decode b_MO_init 148 = .ok (.putfield 58, 3) ∧ 148 + 3 = 151 := ⟨by decide +kernel, rfl⟩
theorem dMO_init_151 : decode b_MO_init 151 = .ok (.aload_n 0, 1) ∧ 151 + 1 = 152 := ⟨by decide +kernel, rfl⟩
theorem dMO_init_152 : decode b_MO_init 152 = .ok (.sipush (600), 3) ∧ 152 + 3 = 155 := ⟨by decide +kernel, rfl⟩
theorem dMO_init_155 : decode b_MO_init 155 = .ok (.newarray .int, 2) ∧ 155 + 2 = 157 := ⟨by decide +kernel, rfl⟩
theorem dMO_init_157 : decode b_MO_init 157 = .ok (.putfield 61, 3) ∧ 157 + 3 = 160 := ⟨by decide +kernel, rfl⟩
theorem dMO_init_160 : decode b_MO_init 160 = .ok (.aload_n 0, 1) ∧ 160 + 1 = 161 := ⟨by decide +kernel, rfl⟩
theorem dMO_init_161 : decode b_MO_init 161 = .ok (.iconst 2, 1) ∧ 161 + 1 = 162 := ⟨by decide +kernel, rfl⟩
theorem dMO_init_162 : decode b_MO_init 162 = .ok (.newarray .int, 2) ∧ 162 + 2 = 164 := ⟨by decide +kernel, rfl⟩
theorem dMO_init_164 : decode b_MO_init 164 = .ok (.putfield 64, 3) ∧ 164 + 3 = 167 := ⟨by decide +kernel, rfl⟩
theorem dMO_init_167 : decode b_MO_init 167 = .ok (.aload_n 0, 1) ∧ 167 + 1 = 168 := ⟨by decide +kernel, rfl⟩
theorem dMO_init_168 : decode b_MO_init 168 = .ok (.bipush (16), 2) ∧ 168 + 2 = 170 := ⟨by decide +kernel, rfl⟩
theorem dMO_init_170 : decode b_MO_init 170 = .ok (.newarray .int, 2) ∧ 170 + 2 = 172 := ⟨by decide +kernel, rfl⟩
theorem dMO_init_172 : decode b_MO_init 172 = .ok (.putfield 67, 3) ∧ 172 + 3 = 175 := ⟨by decide +kernel, rfl⟩
theorem dMO_init_175 : decode b_MO_init 175 = .ok (.aload_n 0, 1) ∧ 175 + 1 = 176 := ⟨by decide +kernel, rfl⟩
theorem dMO_init_176 : decode b_MO_init 176 = .ok (.sipush (8192), 3) ∧ 176 + 3 = 179 := ⟨by decide +kernel, rfl⟩
theorem dMO_init_179 : decode b_MO_init 179 = .ok (.newarray .int, 2) ∧ 179 + 2 = 181 := ⟨by decide +kernel, rfl⟩
theorem dMO_init_181 : decode b_MO_init 181 = .ok (.putfield 70, 3) ∧ 181 + 3 = 184 := ⟨by decide +kernel, rfl⟩
theorem dMO_init_184 : decode b_MO_init 184 = .ok (.aload_n 0, 1) ∧ 184 + 1 = 185 := ⟨by decide +kernel, rfl⟩
theorem dMO_init_185 : decode b_MO_init 185 = .ok (.iconst (-1), 1) ∧ 185 + 1 = 186 := ⟨by decide +kernel, rfl⟩
theorem dMO_init_186 : decode b_MO_init 186 = .ok (.putfield 73, 3) ∧ 186 + 3 = 189 := ⟨by decide +kernel, rfl⟩
theorem dMO_init_189 : decode b_MO_init 189 = .ok (.aload_n 0, 1) ∧ 189 + 1 = 190 := ⟨by decide +kernel, rfl⟩
theorem dMO_init_190 : decode b_MO_init 190 = .ok (.sipush (128), 3) ∧ 190 + 3 = 193 := ⟨by decide +kernel, rfl⟩
theorem dMO_init_193 : decode b_MO_init 193 = .ok (.newarray .int, 2) ∧ 193 + 2 = 195 := ⟨by decide +kernel, rfl⟩
theorem dMO_init_195 : decode b_MO_init 195 = .ok (.putfield 77, 3) ∧ 195 + 3 = 198 := ⟨by decide +kernel, rfl⟩
theorem dMO_init_198 : decode b_MO_init 198 = .ok (.aload_n 0, 1) ∧ 198 + 1 = 199 := ⟨by decide +kernel, rfl⟩
theorem dMO_init_199 : decode b_MO_init 199 = .ok (.bipush (11), 2) ∧ 199 + 2 = 201 := ⟨by decide +kernel, rfl⟩
theorem dMO_init_201 : decode b_MO_init 201 = .ok (.newarray .int, 2) ∧ 201 + 2 = 203 := ⟨by decide +kernel, rfl⟩
theorem dMO_init_203 : decode b_MO_init 203 = .ok (.putfield 80, 3) ∧ 203 + 3 = 206 := ⟨by decide +kernel, rfl⟩
theorem dMO_init_206 : decode b_MO_init 206 = .ok (.aload_n 0, 1) ∧ 206 + 1 = 207 := ⟨by decide +kernel, rfl⟩
theorem dMO_init_207 : decode b_MO_init 207 = .ok (.bipush (11), 2) ∧ 207 + 2 = 209 := ⟨by decide +kernel, rfl⟩
theorem dMO_init_209 : decode b_MO_init 209 = .ok (.newarray .int, 2) ∧ 209 + 2 = 211 := ⟨by decide +kernel, rfl⟩
theorem dMO_init_211 : decode b_MO_init 211 = .ok (.putfield 83, 3) ∧ 211 + 3 = 214 := ⟨by decide +kernel, rfl⟩
theorem dMO_init_214 : decode b_MO_init 214 = .ok (.aload_n 0, 1) ∧ 214 + 1 = 215 := ⟨by decide +kernel, rfl⟩
theorem dMO_init_215 : decode b_MO_init 215 = .ok (.bipush (11), 2) ∧ 215 + 2 = 217 := ⟨by decide +kernel, rfl⟩
theorem dMO_init_217 : decode b_MO_init 217 = .ok (.newarray .int, 2) ∧ 217 + 2 = 219 := ⟨by decide +kernel, rfl⟩
theorem dMO_init_219 : decode b_MO_init 219 = .ok (.putfield 86, 3) ∧ 219 + 3 = 222 := ⟨by decide +kernel, rfl⟩
theorem dMO_init_222 : decode b_MO_init 222 = .ok (.aload_n 0, 1) ∧ 222 + 1 = 223 := ⟨by decide +kernel, rfl⟩
theorem dMO_init_223 : decode b_MO_init 223 = .ok (.bipush (11), 2) ∧ 223 + 2 = 225 := ⟨by decide +kernel, rfl⟩
theorem dMO_init_225 : decode b_MO_init 225 = .ok (.newarray .int, 2) ∧ 225 + 2 = 227 := ⟨by decide +kernel, rfl⟩
theorem dMO_init_227 : decode b_MO_init 227 = .ok (.putfield 89, 3) ∧ 227 + 3 = 230 := ⟨by decide +kernel, rfl⟩
theorem dMO_init_230 : decode b_MO_init 230 = .ok (.aload_n 0, 1) ∧ 230 + 1 = 231 := ⟨by decide +kernel, rfl⟩
theorem dMO_init_231 : decode b_MO_init 231 = .ok (.sipush (2048), 3) ∧ 231 + 3 = 234 := ⟨by decide +kernel, rfl⟩
theorem dMO_init_234 : decode b_MO_init 234 = .ok (.newarray .int, 2) ∧ 234 + 2 = 236 := ⟨by decide +kernel, rfl⟩
theorem dMO_init_236 : decode b_MO_init 236 = .ok (.putfield 92, 3) ∧ 236 + 3 = 239 := ⟨by decide +kernel, rfl⟩
theorem dMO_init_239 : decode b_MO_init 239 = .ok (.aload_n 0, 1) ∧ 239 + 1 = 240 := ⟨by decide +kernel, rfl⟩
theorem dMO_init_240 : decode b_MO_init 240 = .ok (.bipush (24), 2) ∧ 240 + 2 = 242 := ⟨by decide +kernel, rfl⟩
theorem dMO_init_242 : decode b_MO_init 242 = .ok (.newarray .int, 2) ∧ 242 + 2 = 244 := ⟨by decide +kernel, rfl⟩
theorem dMO_init_244 : decode b_MO_init 244 = .ok (.putfield 95, 3) ∧ 244 + 3 = 247 := ⟨by decide +kernel, rfl⟩
theorem dMO_init_247 : decode b_MO_init 247 = .ok (.aload_n 0, 1) ∧ 247 + 1 = 248 := ⟨by decide +kernel, rfl⟩
theorem dMO_init_248 : decode b_MO_init 248 = .ok (.bipush (100), 2) ∧ 248 + 2 = 250 := ⟨by decide +kernel, rfl⟩
theorem dMO_init_250 : decode b_MO_init 250 = .ok (.newarray .int, 2) ∧ 250 + 2 = 252 := ⟨by decide +kernel, rfl⟩
theorem dMO_init_252 : decode b_MO_init 252 = .ok (.putfield 98, 3) ∧ 252 + 3 = 255 := ⟨by decide +kernel, rfl⟩
theorem dMO_init_255 : decode b_MO_init 255 = .ok (.aload_n 0, 1) ∧ 255 + 1 = 256 := ⟨by decide +kernel, rfl⟩
theorem dMO_init_256 : decode b_MO_init 256 = .ok (.bipush (100), 2) ∧ 256 + 2 = 258 := ⟨by decide +kernel, rfl⟩
theorem dMO_init_258 : decode b_MO_init 258 = .ok (.newarray .int, 2) ∧ 258 + 2 = 260 := ⟨by decide +kernel, rfl⟩
theorem dMO_init_260 : decode b_MO_init 260 = .ok (.putfield 101, 3) ∧ 260 + 3 = 263 := ⟨by decide +kernel, rfl⟩
theorem dMO_init_263 : decode b_MO_init 263 = .ok (.aload_n 0, 1) ∧ 263 + 1 = 264 := ⟨by decide +kernel, rfl⟩
theorem dMO_init_264 : decode b_MO_init 264 = .ok (.bipush (11), 2) ∧ 264 + 2 = 266 := ⟨by decide +kernel, rfl⟩
theorem dMO_init_266 : decode b_MO_init 266 = .ok (.newarray .int, 2) ∧ 266 + 2 = 268 := ⟨by decide +kernel, rfl⟩
theorem dMO_init_268 : decode b_MO_init 268 = .ok (.putfield 104, 3) ∧ 268 + 3 = 271 := ⟨by decide +kernel, rfl⟩
theorem dMO_init_271 : decode b_MO_init 271 = .ok (.aload_n 0, 1) ∧ 271 + 1 = 272 := ⟨by decide +kernel, rfl⟩
theorem dMO_init_272 : decode b_MO_init 272 = .ok (.bipush (11), 2) ∧ 272 + 2 = 274 := ⟨by decide +kernel, rfl⟩
theorem dMO_init_274 : decode b_MO_init 274 = .ok (.newarray .int, 2) ∧ 274 + 2 = 276 := ⟨by decide +kernel, rfl⟩
theorem dMO_init_276 : decode b_MO_init 276 = .ok (.putfield 107, 3) ∧ 276 + 3 = 279 := ⟨by decide +kernel, rfl⟩
theorem dMO_init_279 : decode b_MO_init 279 = .ok (.aload_n 0, 1) ∧ 279 + 1 = 280 := ⟨by decide +kernel, rfl⟩
theorem dMO_init_280 : decode b_MO_init 280 = .ok (.bipush (16), 2) ∧ 280 + 2 = 282 := ⟨by decide +kernel, rfl⟩
theorem dMO_init_282 : decode b_MO_init 282 = .ok (.newarray .int, 2) ∧ 282 + 2 = 284 := ⟨by decide +kernel, rfl⟩
theorem dMO_init_284 : decode b_MO_init 284 = .ok (.putfield 110, 3) ∧ 284 + 3 = 287 := ⟨by decide +kernel, rfl⟩
theorem dMO_init_287 : decode b_MO_init 287 = .ok (.iconst 0, 1) ∧ 287 + 1 = 288 := ⟨by decide +kernel, rfl⟩
theorem dMO_init_288 : decode b_MO_init 288 = .ok (.istore_n 1, 1) ∧ 288 + 1 = 289 := ⟨by decide +kernel, rfl⟩
theorem dMO_init_289 : decode b_MO_init 289 = .ok (.iload_n 1, 1) ∧ 289 + 1 = 290 := ⟨by decide +kernel, rfl⟩
theorem dMO_init_290 : decode b_MO_init 290 = .ok (.bipush (8), 2) ∧ 290 + 2 = 292 := ⟨by decide +kernel, rfl⟩
theorem dMO_init_292 : decode b_MO_init 292 = .ok (.if_icmp .ge (16), 3) ∧ 292 + 3 = 295 ∧ ((292 : Nat) : Int) + (16) = ((308 : Nat) : Int) := ⟨by decide +kernel, rfl, by decide⟩
theorem dMO_init_295 : decode b_MO_init 295 = .ok (.aload_n 0, 1) ∧ 295 + 1 = 296 := ⟨by decide +kernel, rfl⟩
theorem dMO_init_296 : decode b_MO_init 296 = .ok (.getfield 16, 3) ∧ 296 + 3 = 299 := ⟨by decide +kernel, rfl⟩
theorem dMO_init_299 : decode b_MO_init 299 = .ok (.iload_n 1, 1) ∧ 299 + 1 = 300 := ⟨by decide +kernel, rfl⟩
theorem dMO_init_300 : decode b_MO_init 300 = .ok (.iconst 1, 1) ∧ 300 + 1 = 301 := ⟨by decide +kernel, rfl⟩
theorem dMO_init_301 : decode b_MO_init 301 = .ok (.iastore, 1) ∧ 301 + 1 = 302 := ⟨by decide +kernel, rfl⟩
theorem dMO_init_302 : decode b_MO_init 302 = .ok (.iinc 1 (1), 3) ∧ 302 + 3 = 305 := ⟨by decide +kernel, rfl⟩
theorem dMO_init_305 : decode b_MO_init 305 = .ok (.goto (-16), 3) ∧ 305 + 3 = 308 ∧ ((305 : Nat) : Int) + (-16) = ((289 : Nat) : Int) := ⟨by decide +kernel, rfl, by decide⟩
theorem dMO_init_308 : decode b_MO_init 308 = .ok (.aload_n 0, 1) ∧ 308 + 1 = 309 := ⟨by decide +kernel, rfl⟩
theorem dMO_init_309 : decode b_MO_init 309 = .ok (.iconst 0, 1) ∧ 309 + 1 = 310 := ⟨by decide +kernel, rfl⟩
theorem dMO_init_310 : decode b_MO_init 310 = .ok (.bipush (120), 2) ∧ 310 + 2 = 312 := ⟨by decide +kernel, rfl⟩
theorem dMO_init_312 : decode b_MO_init 312 = .ok (.bipush (116), 2) ∧ 312 + 2 = 314 := ⟨by decide +kernel, rfl⟩
theorem dMO_init_314 : decode b_MO_init 314 = .ok (.bipush (101), 2) ∧ 314 + 2 = 316 := ⟨by decide +kernel, rfl⟩
theorem dMO_init_316 : decode b_MO_init 316 = .ok (.bipush (120), 2) ∧ 316 + 2 = 318 := ⟨by decide +kernel, rfl⟩
theorem dMO_init_318 : decode b_MO_init 318 = .ok (.bipush (116), 2) ∧ 318 + 2 = 320 := ⟨by decide +kernel, rfl⟩
theorem dMO_init_320 : decode b_MO_init 320 = .ok (.iconst 0, 1) ∧ 320 + 1 = 321 := ⟨by decide +kernel, rfl⟩
theorem dMO_init_321 : decode b_MO_init 321 = .ok (.iconst 0, 1) ∧ 321 + 1 = 322 := ⟨by decide +kernel, rfl⟩
theorem dMO_init_322 : decode b_MO_init 322 = .ok (.iconst 0, 1) ∧ 322 + 1 = 323 := ⟨by decide +kernel, rfl⟩
theorem dMO_init_323 : decode b_MO_init 323 = .ok (.invokevirtual 113, 3) ∧ 323 + 3 = 326 := ⟨by decide +kernel, rfl⟩
theorem dMO_init_326 : decode b_MO_init 326 = .ok (.aload_n 0, 1) ∧ 326 + 1 = 327 := ⟨by decide +kernel, rfl⟩
theorem dMO_init_327 : decode b_MO_init 327 = .ok (.iconst 1, 1) ∧ 327 + 1 = 328 := ⟨by decide +kernel, rfl⟩
theorem dMO_init_328 : decode b_MO_init 328 = .ok (.bipush (120), 2) ∧ 328 + 2 = 330 := ⟨by decide +kernel, rfl⟩
theorem dMO_init_330 : decode b_MO_init 330 = .ok (.bipush (114), 2) ∧ 330 + 2 = 332 := ⟨by decide +kernel, rfl⟩
theorem dMO_init_332 : decode b_MO_init 332 = .ok (.bipush (111), 2) ∧ 332 + 2 = 334 := ⟨by decide +kernel, rfl⟩
theorem dMO_init_334 : decode b_MO_init 334 = .ok (.bipush (100), 2) ∧ 334 + 2 = 336 := ⟨by decide +kernel, rfl⟩
theorem dMO_init_336 : decode b_MO_init 336 = .ok (.bipush (97), 2) ∧ 336 + 2 = 338 := ⟨by decide +kernel, rfl⟩
theorem dMO_init_338 : decode b_MO_init 338 = .ok (.bipush (116), 2) ∧ 338 + 2 = 340 := ⟨by decide +kernel, rfl⟩
theorem dMO_init_340 : decode b_MO_init 340 = .ok (.bipush (97), 2) ∧ 340 + 2 = 342 := ⟨by decide +kernel, rfl⟩
theorem dMO_init_342 : decode b_MO_init 342 = .ok (.iconst 0, 1) ∧ 342 + 1 = 343 := ⟨by decide +kernel, rfl⟩
theorem dMO_init_343 : decode b_MO_init 343 = .ok (.invokevirtual 113, 3) ∧ 343 + 3 = 346 := ⟨by decide +kernel, rfl⟩
theorem dMO_init_346 : decode b_MO_init 346 = .ok (.aload_n 0, 1) ∧ 346 + 1 = 347 := ⟨by decide +kernel, rfl⟩
theorem dMO_init_347 : decode b_MO_init 347 = .ok (.iconst 2, 1) ∧ 347 + 1 = 348 := ⟨by decide +kernel, rfl⟩
theorem dMO_init_348 : decode b_MO_init 348 = .ok (.bipush (120), 2) ∧ 348 + 2 = 350 := ⟨by decide +kernel, rfl⟩
theorem dMO_init_350 : decode b_MO_init 350 = .ok (.bipush (100), 2) ∧ 350 + 2 = 352 := ⟨by decide +kernel, rfl⟩
theorem dMO_init_352 : decode b_MO_init 352 = .ok (.bipush (97), 2) ∧ 352 + 2 = 354 := ⟨by decide +kernel, rfl⟩
theorem dMO_init_354 : decode b_MO_init 354 = .ok (.bipush (116), 2) ∧ 354 + 2 = 356 := ⟨by decide +kernel, rfl⟩
theorem dMO_init_356 : decode b_MO_init 356 = .ok (.bipush (97), 2) ∧ 356 + 2 = 358 := ⟨by decide +kernel, rfl⟩
theorem dMO_init_358 : decode b_MO_init 358 = .ok (.iconst 0, 1) ∧ 358 + 1 = 359 := ⟨by decide +kernel, rfl⟩
theorem dMO_init_359 : decode b_MO_init 359 = .ok (.iconst 0, 1) ∧ 359 + 1 = 360 := ⟨by decide +kernel, rfl⟩
theorem dMO_init_360 : decode b_MO_init 360 = .ok (.iconst 0, 1) ∧ 360 + 1 = 361 := ⟨by decide +kernel, rfl⟩
theorem dMO_init_361 : decode b_MO_init 361 = .ok (.invokevirtual 113, 3) ∧ 361 + 3 = 364 := ⟨by decide +kernel, rfl⟩
theorem dMO_init_364 : decode b_MO_init 364 = .ok (.aload_n 0, 1) ∧ 364 + 1 = 365 := ⟨by decide +kernel, rfl⟩
theorem dMO_init_365 : decode b_MO_init 365 = .ok (.iconst 3, 1) ∧ 365 + 1 = 366 := ⟨by decide +kernel, rfl⟩
theorem dMO_init_366 : decode b_MO_init 366 = .ok (.bipush (120), 2) ∧ 366 + 2 = 368 := ⟨by decide +kernel, rfl⟩
theorem dMO_init_368 : decode b_MO_init 368 = .ok (.bipush (98), 2) ∧ 368 + 2 = 370 := ⟨by decide +kernel, rfl⟩
theorem dMO_init_370 : decode b_MO_init 370 = .ok (.bipush (115), 2) ∧ 370 + 2 = 372 := ⟨by decide +kernel, rfl⟩
theorem dMO_init_372 : decode b_MO_init 372 = .ok (.bipush (115), 2) ∧ 372 + 2 = 374 := ⟨by decide +kernel, rfl⟩
theorem dMO_init_374 : decode b_MO_init 374 = .ok (.iconst 0, 1) ∧ 374 + 1 = 375 := ⟨by decide +kernel, rfl⟩
theorem dMO_init_375 : decode b_MO_init 375 = .ok (.iconst 0, 1) ∧ 375 + 1 = 376 := ⟨by decide +kernel, rfl⟩
theorem dMO_init_376 : decode b_MO_init 376 = .ok (.iconst 0, 1) ∧ 376 + 1 = 377 := ⟨by decide +kernel, rfl⟩
theorem dMO_init_377 : decode b_MO_init 377 = .ok (.iconst 0, 1) ∧ 377 + 1 = 378 := ⟨by decide +kernel, rfl⟩
theorem dMO_init_378 : decode b_MO_init 378 = .ok (.invokevirtual 113, 3) ∧ 378 + 3 = 381 := ⟨by decide +kernel, rfl⟩
theorem dMO_init_381 : decode b_MO_init 381 = .ok (.aload_n 0, 1) ∧ 381 + 1 = 382 := ⟨by decide +kernel, rfl⟩
theorem dMO_init_382 : decode b_MO_init 382 = .ok (.iconst 4, 1) ∧ 382 + 1 = 383 := ⟨by decide +kernel, rfl⟩
theorem dMO_init_383 : decode b_MO_init 383 = .ok (.bipush (120), 2) ∧ 383 + 2 = 385 := ⟨by decide +kernel, rfl⟩
theorem dMO_init_385 : decode b_MO_init 385 = .ok (.bipush (115), 2) ∧ 385 + 2 = 387 := ⟨by decide +kernel, rfl⟩
theorem dMO_init_387 : decode b_MO_init 387 = .ok (.bipush (116), 2) ∧ 387 + 2 = 389 := ⟨by decide +kernel, rfl⟩
theorem dMO_init_389 : decode b_MO_init 389 = .ok (.bipush (97), 2) ∧ 389 + 2 = 391 := ⟨by decide +kernel, rfl⟩
theorem dMO_init_391 : decode b_MO_init 391 = .ok (.bipush (114), 2) ∧ 391 + 2 = 393 := ⟨by decide +kernel, rfl⟩
theorem dMO_init_393 : decode b_MO_init 393 = .ok (.bipush (116), 2) ∧ 393 + 2 = 395 := ⟨by decide +kernel, rfl⟩
theorem dMO_init_395 : decode b_MO_init 395 = .ok (.bipush (115), 2) ∧ 395 + 2 = 397 := ⟨by decide +kernel, rfl⟩
theorem dMO_init_397 : decode b_MO_init 397 = .ok (.iconst 0, 1) ∧ 397 + 1 = 398 := ⟨by decide +kernel, rfl⟩
theorem dMO_init_398 : decode b_MO_init 398 = .ok (.invokevirtual 113, 3) ∧ 398 + 3 = 401 := ⟨by decide +kernel, rfl⟩
theorem dMO_init_401 : decode b_MO_init 401 = .ok (.aload_n 0, 1) ∧ 401 + 1 = 402 := ⟨by decide +kernel, rfl⟩
theorem dMO_init_402 : decode b_MO_init 402 = .ok (.iconst 5, 1) ∧ 402 + 1 = 403 := ⟨by decide +kernel, rfl⟩
theorem dMO_init_403 : decode b_MO_init 403 = .ok (.bipush (114), 2) ∧ 403 + 2 = 405 := ⟨by decide +kernel, rfl⟩
theorem dMO_init_405 : decode b_MO_init 405 = .ok (.bipush (116), 2) ∧ 405 + 2 = 407 := ⟨by decide +kernel, rfl⟩
theorem dMO_init_407 : decode b_MO_init 407 = .ok (.bipush (101), 2) ∧ 407 + 2 = 409 := ⟨by decide +kernel, rfl⟩
theorem dMO_init_409 : decode b_MO_init 409 = .ok (.bipush (120), 2) ∧ 409 + 2 = 411 := ⟨by decide +kernel, rfl⟩
theorem dMO_init_411 : decode b_MO_init 411 = .ok (.bipush (116), 2) ∧ 411 + 2 = 413 := ⟨by decide +kernel, rfl⟩
theorem dMO_init_413 : decode b_MO_init 413 = .ok (.iconst 0, 1) ∧ 413 + 1 = 414 := ⟨by decide +kernel, rfl⟩
theorem dMO_init_414 : decode b_MO_init 414 = .ok (.iconst 0, 1) ∧ 414 + 1 = 415 := ⟨by decide +kernel, rfl⟩
theorem dMO_init_415 : decode b_MO_init 415 = .ok (.iconst 0, 1) ∧ 415 + 1 = 416 := ⟨by decide +kernel, rfl⟩
theorem dMO_init_416 : decode b_MO_init 416 = .ok (.invokevirtual 113, 3) ∧ 416 + 3 = 419 := ⟨by decide +kernel, rfl⟩
theorem dMO_init_419 : decode b_MO_init 419 = .ok (.aload_n 0, 1) ∧ 419 + 1 = 420 := ⟨by decide +kernel, rfl⟩
theorem dMO_init_420 : decode b_MO_init 420 = .ok (.bipush (6), 2) ∧ 420 + 2 = 422 := ⟨by decide +kernel, rfl⟩
theorem dMO_init_422 : decode b_MO_init 422 = .ok (.bipush (114), 2) ∧ 422 + 2 = 424 := ⟨by decide +kernel, rfl⟩
theorem dMO_init_424 : decode b_MO_init 424 = .ok (.bipush (114), 2) ∧ 424 + 2 = 426 := ⟨by decide +kernel, rfl⟩
theorem dMO_init_426 : decode b_MO_init 426 = .ok (.bipush (111), 2) ∧ 426 + 2 = 428 := ⟨by decide +kernel, rfl⟩
theorem dMO_init_428 : decode b_MO_init 428 = .ok (.bipush (100), 2) ∧ 428 + 2 = 430 := ⟨by decide +kernel, rfl⟩
theorem dMO_init_430 : decode b_MO_init 430 = .ok (.bipush (97), 2) ∧ 430 + 2 = 432 := ⟨by decide +kernel, rfl⟩
theorem dMO_init_432 : decode b_MO_init 432 = .ok (.bipush (116), 2) ∧ 432 + 2 = 434 := ⟨by decide +kernel, rfl⟩
theorem dMO_init_434 : decode b_MO_init 434 = .ok (.bipush (97), 2) ∧ 434 + 2 = 436 := ⟨by decide +kernel, rfl⟩
theorem dMO_init_436 : decode b_MO_init 436 = .ok (.iconst 0, 1) ∧ 436 + 1 = 437 := ⟨by decide +kernel, rfl⟩
theorem dMO_init_437 : decode b_MO_init 437 = .ok (.invokevirtual 113, 3) ∧ 437 + 3 = 440 := ⟨by decide +kernel, rfl⟩
theorem dMO_init_440 : decode b_MO_init 440 = .ok (.aload_n 0, 1) ∧ 440 + 1 = 441 := ⟨by decide +kernel, rfl⟩
theorem dMO_init_441 : decode b_MO_init 441 = .ok (.bipush (7), 2) ∧ 441 + 2 = 443 := ⟨by decide +kernel, rfl⟩
theorem dMO_init_443 : decode b_MO_init 443 = .ok (.bipush (114), 2) ∧ 443 + 2 = 445 := ⟨by decide +kernel, rfl⟩
theorem dMO_init_445 : decode b_MO_init 445 = .ok (.bipush (100), 2) ∧ 445 + 2 = 447 := ⟨by decide +kernel, rfl⟩
theorem dMO_init_447 : decode b_MO_init 447 = .ok (.bipush (97), 2) ∧ 447 + 2 = 449 := ⟨by decide +kernel, rfl⟩
theorem dMO_init_449 : decode b_MO_init 449 = .ok (.bipush (116), 2) ∧ 449 + 2 = 451 := ⟨by decide +kernel, rfl⟩
theorem dMO_init_451 : decode b_MO_init 451 = .ok (.bipush (97), 2) ∧ 451 + 2 = 453 := ⟨by decide +kernel, rfl⟩
theorem dMO_init_453 : decode b_MO_init 453 = .ok (.iconst 0, 1) ∧ 453 + 1 = 454 := ⟨by decide +kernel, rfl⟩
theorem dMO_init_454 : decode b_MO_init 454 = .ok (.iconst 0, 1) ∧ 454 + 1 = 455 := ⟨by decide +kernel, rfl⟩
theorem dMO_init_455 : decode b_MO_init 455 = .ok (.iconst 0, 1) ∧ 455 + 1 = 456 := ⟨by decide +kernel, rfl⟩
theorem dMO_init_456 : decode b_MO_init 456 = .ok (.invokevirtual 113, 3) ∧ 456 + 3 = 459 := ⟨by decide +kernel, rfl⟩
theorem dMO_init_459 : decode b_MO_init 459 = .ok (.aload_n 0, 1) ∧ 459 + 1 = 460 := ⟨by decide +kernel, rfl⟩
theorem dMO_init_460 : decode b_MO_init 460 = .ok (.bipush (8), 2) ∧ 460 + 2 = 462 := ⟨by decide +kernel, rfl⟩
theorem dMO_init_462 : decode b_MO_init 462 = .ok (.bipush (120), 2) ∧ 462 + 2 = 464 := ⟨by decide +kernel, rfl⟩
theorem dMO_init_464 : decode b_MO_init 464 = .ok (.bipush (115), 2) ∧ 464 + 2 = 466 := ⟨by decide +kernel, rfl⟩
theorem dMO_init_466 : decode b_MO_init 466 = .ok (.bipush (121), 2) ∧ 466 + 2 = 468 := ⟨by decide +kernel, rfl⟩
theorem dMO_init_468 : decode b_MO_init 468 = .ok (.bipush (109), 2) ∧ 468 + 2 = 470 := ⟨by decide +kernel, rfl⟩
theorem dMO_init_470 : decode b_MO_init 470 = .ok (.bipush (116), 2) ∧ 470 + 2 = 472 := ⟨by decide +kernel, rfl⟩
theorem dMO_init_472 : decode b_MO_init 472 = .ok (.bipush (97), 2) ∧ 472 + 2 = 474 := ⟨by decide +kernel, rfl⟩
theorem dMO_init_474 : decode b_MO_init 474 = .ok (.bipush (98), 2) ∧ 474 + 2 = 476 := ⟨by decide +kernel, rfl⟩
theorem dMO_init_476 : decode b_MO_init 476 = .ok (.iconst 0, 1) ∧ 476 + 1 = 477 := ⟨by decide +kernel, rfl⟩
theorem dMO_init_477 : decode b_MO_init 477 = .ok (.invokevirtual 113, 3) ∧ 477 + 3 = 480 := ⟨by decide +kernel, rfl⟩
theorem dMO_init_480 : decode b_MO_init 480 = .ok (.aload_n 0, 1) ∧ 480 + 1 = 481 := ⟨by decide +kernel, rfl⟩
theorem dMO_init_481 : decode b_MO_init 481 = .ok (.bipush (9), 2) ∧ 481 + 2 = 483 := ⟨by decide +kernel, rfl⟩
theorem dMO_init_483 : decode b_MO_init 483 = .ok (.bipush (120), 2) ∧ 483 + 2 = 485 := ⟨by decide +kernel, rfl⟩
theorem dMO_init_485 : decode b_MO_init 485 = .ok (.bipush (115), 2) ∧ 485 + 2 = 487 := ⟨by decide +kernel, rfl⟩
theorem dMO_init_487 : decode b_MO_init 487 = .ok (.bipush (116), 2) ∧ 487 + 2 = 489 := ⟨by decide +kernel, rfl⟩
theorem dMO_init_489 : decode b_MO_init 489 = .ok (.bipush (114), 2) ∧ 489 + 2 = 491 := ⟨by decide +kernel, rfl⟩
theorem dMO_init_491 : decode b_MO_init 491 = .ok (.bipush (116), 2) ∧ 491 + 2 = 493 := ⟨by decide +kernel, rfl⟩
theorem dMO_init_493 : decode b_MO_init 493 = .ok (.bipush (97), 2) ∧ 493 + 2 = 495 := ⟨by decide +kernel, rfl⟩
theorem dMO_init_495 : decode b_MO_init 495 = .ok (.bipush (98), 2) ∧ 495 + 2 = 497 := ⟨by decide +kernel, rfl⟩
theorem dMO_init_497 : decode b_MO_init 497 = .ok (.iconst 0, 1) ∧ 497 + 1 = 498 := ⟨by decide +kernel, rfl⟩
theorem dMO_init_498 : decode b_MO_init 498 = .ok (.invokevirtual 113, 3) ∧ 498 + 3 = 501 := ⟨by decide +kernel, rfl⟩
theorem dMO_init_501 : decode b_MO_init 501 = .ok (.aload_n 0, 1) ∧ 501 + 1 = 502 := ⟨by decide +kernel, rfl⟩
theorem dMO_init_502 : decode b_MO_init 502 = .ok (.bipush (10), 2) ∧ 502 + 2 = 504 := ⟨by decide +kernel, rfl⟩
theorem dMO_init_504 : decode b_MO_init 504 = .ok (.bipush (120), 2) ∧ 504 + 2 = 506 := ⟨by decide +kernel, rfl⟩
theorem dMO_init_506 : decode b_MO_init 506 = .ok (.bipush (115), 2) ∧ 506 + 2 = 508 := ⟨by decide +kernel, rfl⟩
theorem dMO_init_508 : decode b_MO_init 508 = .ok (.bipush (104), 2) ∧ 508 + 2 = 510 := ⟨by decide +kernel, rfl⟩
theorem dMO_init_510 : decode b_MO_init 510 = .ok (.bipush (115), 2) ∧ 510 + 2 = 512 := ⟨by decide +kernel, rfl⟩
theorem dMO_init_512 : decode b_MO_init 512 = .ok (.bipush (116), 2) ∧ 512 + 2 = 514 := ⟨by decide +kernel, rfl⟩
theorem dMO_init_514 : decode b_MO_init 514 = .ok (.bipush (114), 2) ∧ 514 + 2 = 516 := ⟨by decide +kernel, rfl⟩
theorem dMO_init_516 : decode b_MO_init 516 = .ok (.bipush (116), 2) ∧ 516 + 2 = 518 := ⟨by decide +kernel, rfl⟩
theorem dMO_init_518 : decode b_MO_init 518 = .ok (.bipush (97), 2) ∧ 518 + 2 = 520 := ⟨by decide +kernel, rfl⟩
theorem dMO_init_520 : decode b_MO_init 520 = .ok (.invokevirtual 113, 3) ∧ 520 + 3 = 523 := ⟨by decide +kernel, rfl⟩
theorem dMO_init_523 : decode b_MO_init 523 = .ok (.aload_n 0, 1) ∧ 523 + 1 = 524 := ⟨by decide +kernel, rfl⟩
theorem dMO_init_524 : decode b_MO_init 524 = .ok (.getfield 77, 3) ∧ 524 + 3 = 527 := ⟨by decide +kernel, rfl⟩
theorem dMO_init_527 : decode b_MO_init 527 = .ok (.aload_n 0, 1) ∧ 527 + 1 = 528 := ⟨by decide +kernel, rfl⟩
theorem dMO_init_528 : decode b_MO_init 528 = .ok (.getfield 117, 3) ∧ 528 + 3 = 531 := ⟨by decide +kernel, rfl⟩
theorem dMO_init_531 : decode b_MO_init 531 = .ok (.iconst 1, 1) ∧ 531 + 1 = 532 := ⟨by decide +kernel, rfl⟩
theorem dMO_init_532 : decode b_MO_init 532 = .ok (.isub, 1) ∧ 532 + 1 = 533 := ⟨by decide +kernel, rfl⟩
theorem dMO_init_533 : decode b_MO_init 533 = .ok (.bipush (98), 2) ∧ 533 + 2 = 535 := ⟨by decide +kernel, rfl⟩
theorem dMO_init_535 : decode b_MO_init 535 = .ok (.iastore, 1) ∧ 535 + 1 = 536 := ⟨by decide +kernel, rfl⟩
theorem dMO_init_536 : decode b_MO_init 536 = .ok (.aload_n 0, 1) ∧ 536 + 1 = 537 := ⟨by decide +kernel, rfl⟩
theorem dMO_init_537 : decode b_MO_init 537 = .ok (.getfield 77, 3) ∧ 537 + 3 = 540 := ⟨by decide +kernel, rfl⟩
theorem dMO_init_540 : decode b_MO_init 540 = .ok (.aload_n 0, 1) ∧ 540 + 1 = 541 := ⟨by decide +kernel, rfl⟩
theorem dMO_init_541 : decode b_MO_init 541 = .ok (.getfield 117, 3) ∧ 541 + 3 = 544 := ⟨by decide +kernel, rfl⟩
theorem dMO_init_544 : decode b_MO_init 544 = .ok (.iconst 0, 1) ∧ 544 + 1 = 545 := ⟨by decide +kernel, rfl⟩
theorem dMO_init_545 : decode b_MO_init 545 = .ok (.iastore, 1) ∧ 545 + 1 = 546 := ⟨by decide +kernel, rfl⟩
theorem dMO_init_546 : decode b_MO_init 546 = .ok (.aload_n 0, 1) ∧ 546 + 1 = 547 := ⟨by decide +kernel, rfl⟩
theorem dMO_init_547 : decode b_MO_init 547 = .ok (.dup, 1) ∧ 547 + 1 = 548 := ⟨by decide +kernel, rfl⟩
theorem dMO_init_548 : decode b_MO_init 548 = .ok (.getfield 117, 3) ∧ 548 + 3 = 551 := ⟨by decide +kernel, rfl⟩
theorem dMO_init_551 : decode b_MO_init 551 = .ok (.iconst 1, 1) ∧ 551 + 1 = 552 := ⟨by decide +kernel, rfl⟩
theorem dMO_init_552 : decode b_MO_init 552 = .ok (.iadd, 1) ∧ 552 + 1 = 553 := ⟨by decide +kernel, rfl⟩
theorem dMO_init_553 : decode b_MO_init 553 = .ok (.putfield 117, 3) ∧ 553 + 3 = 556 := ⟨by decide +kernel, rfl⟩
theorem dMO_init_556 : decode b_MO_init 556 = .ok (.return_, 1) ∧ 556 + 1 = 557 := ⟨by decide +kernel, rfl⟩
theorem dOF_init_0 : decode b_OF_init 0 = .ok (.aload_n 0, 1) ∧ 0 + 1 = 1 := ⟨by decide +kernel, rfl⟩
theorem dOF_init_1 : decode b_OF_init 1 = .ok (.invokespecial 3, 3) ∧ 1 + 3 = 4 := ⟨by decide +kernel, rfl⟩
theorem dOF_init_4 : decode b_OF_init 4 = .ok (.aload_n 0, 1) ∧ 4 + 1 = 5 := ⟨by decide +kernel, rfl⟩
theorem dOF_init_5 : decode b_OF_init 5 = .ok (.new 9, 3) ∧ 5 + 3 = 8 := ⟨by decide +kernel, rfl⟩
theorem dOF_init_8 : decode b_OF_init 8 = .ok (.dup, 1) ∧ 8 + 1 = 9 := ⟨by decide +kernel, rfl⟩
theorem dOF_init_9 : decode b_OF_init 9 = .ok (.invokespecial 11, 3) ∧ 9 + 3 = 12 := ⟨by decide +kernel, rfl⟩
theorem dOF_init_12 : decode b_OF_init 12 = .ok (.putfield 12, 3) ∧ 12 + 3 = 15 := ⟨by decide +kernel, rfl⟩
theorem dOF_init_15 : decode b_OF_init 15 = .ok (.aload_n 0, 1) ∧ 15 + 1 = 16 := ⟨by decide +kernel, rfl⟩
theorem dOF_init_16 : decode b_OF_init 16 = .ok (.new 9, 3) ∧ 16 + 3 = 19 := ⟨by decide +kernel, rfl⟩
theorem dOF_init_19 : decode b_OF_init 19 = .ok (.dup, 1) ∧ 19 + 1 = 20 := ⟨by decide +kernel, rfl⟩
theorem dOF_init_20 : decode b_OF_init 20 = .ok (.invokespecial 11, 3) ∧ 20 + 3 = 23 := ⟨by decide +kernel, rfl⟩
theorem dOF_init_23 : decode b_OF_init 23 = .ok (.putfield 16, 3) ∧ 23 + 3 = 26 := ⟨by decide +kernel, rfl⟩
theorem dOF_init_26 : decode b_OF_init 26 = .ok (.aload_n 0, 1) ∧ 26 + 1 = 27 := ⟨by decide +kernel, rfl⟩
theorem dOF_init_27 : decode b_OF_init 27 = .ok (.new 19, 3) ∧ 27 + 3 = 30 := ⟨by decide +kernel, rfl⟩
theorem dOF_init_30 : decode b_OF_init 30 = .ok (.dup, 1) ∧ 30 + 1 = 31 := ⟨by decide +kernel, rfl⟩
theorem dOF_init_31 : decode b_OF_init 31 = .ok (.invokespecial 21, 3) ∧ 31 + 3 = 34 := ⟨by decide +kernel, rfl⟩
theorem dOF_init_34 : decode b_OF_init 34 = .ok (.putfield 22, 3) ∧ 34 + 3 = 37 := ⟨by decide +kernel, rfl⟩
theorem dOF_init_37 : decode b_OF_init 37 = .ok (.aload_n 0, 1) ∧ 37 + 1 = 38 := ⟨by decide +kernel, rfl⟩
theorem dOF_init_38 : decode b_OF_init 38 = .ok (.new 26, 3) ∧ 38 + 3 = 41 := ⟨by decide +kernel, rfl⟩
theorem dOF_init_41 : decode b_OF_init 41 = .ok (.dup, 1) ∧ 41 + 1 = 42 := ⟨by decide +kernel, rfl⟩
theorem dOF_init_42 : decode b_OF_init 42 = .ok (.aload_n 0, 1) ∧ 42 + 1 = 43 := ⟨by decide +kernel, rfl⟩
theorem dOF_init_43 : decode b_OF_init 43 = .ok (.getfield 12, 3) ∧ 43 + 3 = 46 := ⟨by decide +kernel, rfl⟩
theorem dOF_init_46 : decode b_OF_init 46 = .ok (.aload_n 0, 1) ∧ 46 + 1 = 47 := ⟨by decide +kernel, rfl⟩
theorem dOF_init_47 : decode b_OF_init 47 = .ok (.getfield 22, 3) ∧ 47 + 3 = 50 := ⟨by decide +kernel, rfl⟩
theorem dOF_init_50 : decode b_OF_init 50 = .ok (.invokespecial 28, 3) ∧ 50 + 3 = 53 := ⟨by decide +kernel, rfl⟩
theorem dOF_init_53 : decode b_OF_init 53 = .ok (.putfield 31, 3) ∧ 53 + 3 = 56 := ⟨by decide +kernel, rfl⟩
theorem dOF_init_56 : decode b_OF_init 56 = .ok (.aload_n 0, 1) ∧ 56 + 1 = 57 := ⟨by decide +kernel, rfl⟩
theorem dOF_init_57 : decode b_OF_init 57 = .ok (.new 35, 3) ∧ 57 + 3 = 60 := ⟨by decide +kernel, rfl⟩
theorem dOF_init_60 : decode b_OF_init 60 = .ok (.dup, 1) ∧ 60 + 1 = 61 := ⟨by decide +kernel, rfl⟩
theorem dOF_init_61 : decode b_OF_init 61 = .ok (.invokespecial 37, 3) ∧ 61 + 3 = 64 := ⟨by decide +kernel, rfl⟩
theorem dOF_init_64 : decode b_OF_init 64 = .ok (.putfield 38, 3) ∧ 64 + 3 = 67 := ⟨by decide +kernel, rfl⟩
theorem dOF_init_67 : decode b_OF_init 67 = .ok (.aload_n 0, 1) ∧ 67 + 1 = 68 := ⟨by decide +kernel, rfl⟩
theorem dOF_init_68 : decode b_OF_init 68 = .ok (.new 42, 3) ∧ 68 + 3 = 71 := ⟨by decide +kernel, rfl⟩
theorem dOF_init_71 : decode b_OF_init 71 = .ok (.dup, 1) ∧ 71 + 1 = 72 := ⟨by decide +kernel, rfl⟩
theorem dOF_init_72 : decode b_OF_init 72 = .ok (.aload_n 0, 1) ∧ 72 + 1 = 73 := ⟨by decide +kernel, rfl⟩
theorem dOF_init_73 : decode b_OF_init 73 = .ok (.getfield 22, 3) ∧ 73 + 3 = 76 := ⟨by decide +kernel, rfl⟩
theorem dOF_init_76 : decode b_OF_init 76 = .ok (.aload_n 0, 1) ∧ 76 + 1 = 77 := ⟨by decide +kernel, rfl⟩
theorem dOF_init_77 : decode b_OF_init 77 = .ok (.getfield 38, 3) ∧ 77 + 3 = 80 := ⟨by decide +kernel, rfl⟩
theorem dOF_init_80 : decode b_OF_init 80 = .ok (.invokespecial 44, 3) ∧ 80 + 3 = 83 := ⟨by decide +kernel, rfl⟩
theorem dOF_init_83 : decode b_OF_init 83 = .ok (.putfield 47, 3) ∧ 83 + 3 = 86 := ⟨by decide +kernel, rfl⟩
theorem dOF_init_86 : decode b_OF_init 86 = .ok (.aload_n 0, 1) ∧ 86 + 1 = 87 := ⟨by decide +kernel, rfl⟩
theorem dOF_init_87 : decode b_OF_init 87 = .ok (.new 51, 3) ∧ 87 + 3 = 90 := ⟨by decide +kernel, rfl⟩
theorem dOF_init_90 : decode b_OF_init 90 = .ok (.dup, 1) ∧ 90 + 1 = 91 := ⟨by decide +kernel, rfl⟩
theorem dOF_init_91 : decode b_OF_init 91 = .ok (.aload_n 0, 1) ∧ 91 + 1 = 92 := ⟨by decide +kernel, rfl⟩
theorem dOF_init_92 : decode b_OF_init 92 = .ok (.getfield 22, 3) ∧ 92 + 3 = 95 := ⟨by decide +kernel, rfl⟩
theorem dOF_init_95 : decode b_OF_init 95 = .ok (.aload_n 0, 1) ∧ 95 + 1 = 96 := ⟨by decide +kernel, rfl⟩
theorem dOF_init_96 : decode b_OF_init 96 = .ok (.getfield 38, 3) ∧ 96 + 3 = 99 := ⟨by decide +kernel, rfl⟩
theorem dOF_init_99 : decode b_OF_init 99 = .ok (.aload_n 0, 1) ∧ 99 + 1 = 100 := ⟨by decide +kernel, rfl⟩
theorem dOF_init_100 : decode b_OF_init 100 = .ok (.getfield 47, 3) ∧ 100 + 3 = 103 := ⟨by decide +kernel, rfl⟩
theorem dOF_init_103 : decode b_OF_init 103 = .ok (.invokespecial 53, 3) ∧ 103 + 3 = 106 := ⟨by decide +kernel, rfl⟩
theorem dOF_init_106 : decode b_OF_init 106 = .ok (.putfield 56, 3) ∧ 106 + 3 = 109 := ⟨by decide +kernel, rfl⟩
theorem dOF_init_109 : decode b_OF_init 109 = .ok (.aload_n 0, 1) ∧ 109 + 1 = 110 := ⟨by decide +kernel, rfl⟩
theorem dOF_init_110 : decode b_OF_init 110 = .ok (.bipush (16), 2) ∧ 110 + 2 = 112 := ⟨by decide +kernel, rfl⟩
theorem dOF_init_112 : decode b_OF_init 112 = .ok (.newarray .byte, 2) ∧ 112 + 2 = 114 := ⟨by decide +kernel, rfl⟩
theorem dOF_init_114 : decode b_OF_init 114 = .ok (.putfield 60, 3) ∧ 114 + 3 = 117 := ⟨by decide +kernel, rfl⟩
theorem dOF_init_117 : decode b_OF_init 117 = .ok (.return_, 1) ∧ 117 + 1 = 118 := ⟨by decide +kernel, rfl⟩
theorem dRE_init_0 : decode b_RE_init 0 = .ok (.aload_n 0, 1) ∧ 0 + 1 = 1 := ⟨by decide +kernel, rfl⟩
theorem dRE_init_1 : decode b_RE_init 1 = .ok (.invokespecial 3, 3) ∧ 1 + 3 = 4 := ⟨by decide +kernel, rfl⟩
theorem dRE_init_4 : decode b_RE_init 4 = .ok (.aload_n 0, 1) ∧ 4 + 1 = 5 := ⟨by decide +kernel, rfl⟩
theorem dRE_init_5 : decode b_RE_init 5 = .ok (.aload_n 1, 1) ∧ 5 + 1 = 6 := ⟨by decide +kernel, rfl⟩
theorem dRE_init_6 : decode b_RE_init 6 = .ok (.putfield 9, 3) ∧ 6 + 3 = 9 := ⟨by decide +kernel, rfl⟩
theorem dRE_init_9 : decode b_RE_init 9 = .ok (.aload_n 0, 1) ∧ 9 + 1 = 10 := ⟨by decide +kernel, rfl⟩
theorem dRE_init_10 : decode b_RE_init 10 = .ok (.aload_n 2, 1) ∧ 10 + 1 = 11 := ⟨by decide +kernel, rfl⟩
theorem dRE_init_11 : decode b_RE_init 11 = .ok (.putfield 15, 3) ∧ 11 + 3 = 14 := ⟨by decide +kernel, rfl⟩
theorem dRE_init_14 : decode b_RE_init 14 = .ok (.aload_n 0, 1) ∧ 14 + 1 = 15 := ⟨by decide +kernel, rfl⟩
theorem dRE_init_15 : decode b_RE_init 15 = .ok (.aload_n 3, 1) ∧ 15 + 1 = 16 := ⟨by decide +kernel, rfl⟩
theorem dRE_init_16 : decode b_RE_init 16 = .ok (.putfield 19, 3) ∧ 16 + 3 = 19 := ⟨by decide +kernel, rfl⟩
theorem dRE_init_19 : decode b_RE_init 19 = .ok (.return_, 1) ∧ 19 + 1 = 20 := ⟨by decide +kernel, rfl⟩
theorem dST_init_0 : decode b_ST_init 0 = .ok (.aload_n 0, 1) ∧ 0 + 1 = 1 := ⟨by decide +kernel, rfl⟩
theorem dST_init_1 : decode b_ST_init 1 = .ok (.invokespecial 3, 3) ∧ 1 + 3 = 4 := ⟨by decide +kernel, rfl⟩
theorem dST_init_4 : decode b_ST_init 4 = .ok (.aload_n 0, 1) ∧ 4 + 1 = 5 := ⟨by decide +kernel, rfl⟩
theorem dST_init_5 : decode b_ST_init 5 = .ok (.sipush (1701), 3) ∧ 5 + 3 = 8 := ⟨by decide +kernel, rfl⟩
theorem dST_init_8 : decode b_ST_init 8 = .ok (.newarray .byte, 2) ∧ 8 + 2 = 10 := ⟨by decide +kernel, rfl⟩
theorem dST_init_10 : decode b_ST_init 10 = .ok (.putfield 9, 3) ∧ 10 + 3 = 13 := ⟨by decide +kernel, rfl⟩
theorem dST_init_13 : decode b_ST_init 13 = .ok (.return_, 1) ∧ 13 + 1 = 14 := ⟨by decide +kernel, rfl⟩
theorem dWR_init_0 : decode b_WR_init 0 = .ok (.aload_n 0, 1) ∧ 0 + 1 = 1 := ⟨by decide +kernel, rfl⟩
theorem dWR_init_1 : decode b_WR_init 1 = .ok (.invokespecial 3, 3) ∧ 1 + 3 = 4 := ⟨by decide +kernel, rfl⟩
theorem dWR_init_4 : decode b_WR_init 4 = .ok (.aload_n 0, 1) ∧ 4 + 1 = 5 := ⟨by decide +kernel, rfl⟩
theorem dWR_init_5 : decode b_WR_init 5 = .ok (.new 9, 3) ∧ 5 + 3 = 8 := ⟨by decide +kernel, rfl⟩
theorem dWR_init_8 : decode b_WR_init 8 = .ok (.dup, 1) ∧ 8 + 1 = 9 := ⟨by decide +kernel, rfl⟩
theorem dWR_init_9 : decode b_WR_init 9 = .ok (.invokespecial 11, 3) ∧ 9 + 3 = 12 := ⟨by decide +kernel, rfl⟩
theorem dWR_init_12 : decode b_WR_init 12 = .ok (.putfield 12, 3) ∧ 12 + 3 = 15 := ⟨by decide +kernel, rfl⟩
theorem dWR_init_15 : decode b_WR_init 15 = .ok (.aload_n 0, 1) ∧ 15 + 1 = 16 := ⟨by decide +kernel, rfl⟩
theorem dWR_init_16 : decode b_WR_init 16 = .ok (.new 9, 3) ∧ 16 + 3 = 19 := ⟨by decide +kernel, rfl⟩
theorem dWR_init_19 : decode b_WR_init 19 = .ok (.dup, 1) ∧ 19 + 1 = 20 := ⟨by decide +kernel, rfl⟩
theorem dWR_init_20 : decode b_WR_init 20 = .ok (.invokespecial 11, 3) ∧ 20 + 3 = 23 := ⟨by decide +kernel, rfl⟩
theorem dWR_init_23 : decode b_WR_init 23 = .ok (.putfield 18, 3) ∧ 23 + 3 = 26 := ⟨by decide +kernel, rfl⟩
theorem dWR_init_26 : decode b_WR_init 26 = .ok (.aload_n 0, 1) ∧ 26 + 1 = 27 := ⟨by decide +kernel, rfl⟩
theorem dWR_init_27 : decode b_WR_init 27 = .ok (.bipush (16), 2) ∧ 27 + 2 = 29 := ⟨by decide +kernel, rfl⟩
theorem dWR_init_29 : decode b_WR_init 29 = .ok (.newarray .byte, 2) ∧ 29 + 2 = 31 := ⟨by decide +kernel, rfl⟩
theorem dWR_init_31 : decode b_WR_init 31 = .ok (.putfield 21, 3) ∧ 31 + 3 = 34 := ⟨by decide +kernel, rfl⟩
theorem dWR_init_34 : decode b_WR_init 34 = .ok (.aload_n 0, 1) ∧ 34 + 1 = 35 := ⟨by decide +kernel, rfl⟩
theorem dWR_init_35 : decode b_WR_init 35 = .ok (.bipush (11), 2) ∧ 35 + 2 = 37 := ⟨by decide +kernel, rfl⟩
theorem dWR_init_37 : decode b_WR_init 37 = .ok (.newarray .int, 2) ∧ 37 + 2 = 39 := ⟨by decide +kernel, rfl⟩
theorem dWR_init_39 : decode b_WR_init 39 = .ok (.putfield 25, 3) ∧ 39 + 3 = 42 := ⟨by decide +kernel, rfl⟩
theorem dWR_init_42 : decode b_WR_init 42 = .ok (.aload_n 0, 1) ∧ 42 + 1 = 43 := ⟨by decide +kernel, rfl⟩
theorem dWR_init_43 : decode b_WR_init 43 = .ok (.bipush (11), 2) ∧ 43 + 2 = 45 := ⟨by decide +kernel, rfl⟩
theorem dWR_init_45 : decode b_WR_init 45 = .ok (.newarray .int, 2) ∧ 45 + 2 = 47 := ⟨by decide +kernel, rfl⟩
theorem dWR_init_47 : decode b_WR_init 47 = .ok (.putfield 29, 3) ∧ 47 + 3 = 50 := ⟨by decide +kernel, rfl⟩
theorem dWR_init_50 : decode b_WR_init 50 = .ok (.aload_n 0, 1) ∧ 50 + 1 = 51 := ⟨by decide +kernel, rfl⟩
theorem dWR_init_51 : decode b_WR_init 51 = .ok (.bipush (11), 2) ∧ 51 + 2 = 53 := ⟨by decide +kernel, rfl⟩
theorem dWR_init_53 : decode b_WR_init 53 = .ok (.newarray .int, 2) ∧ 53 + 2 = 55 := ⟨by decide +kernel, rfl⟩
theorem dWR_init_55 : decode b_WR_init 55 = .ok (.putfield 32, 3) ∧ 55 + 3 = 58 := ⟨by decide +kernel, rfl⟩
theorem dWR_init_58 : decode b_WR_init 58 = .ok (.aload_n 0, 1) ∧ 58 + 1 = 59 := ⟨by decide +kernel, rfl⟩
theorem dWR_init_59 : decode b_WR_init 59 = .ok (.bipush (11), 2) ∧ 59 + 2 = 61 := ⟨by decide +kernel, rfl⟩
theorem dWR_init_61 : decode b_WR_init 61 = .ok (.newarray .int, 2) ∧ 61 + 2 = 63 := ⟨by decide +kernel, rfl⟩
theorem dWR_init_63 : decode b_WR_init 63 = .ok (.putfield 35, 3) ∧ 63 + 3 = 66 := ⟨by decide +kernel, rfl⟩
theorem dWR_init_66 : decode b_WR_init 66 = .ok (.aload_n 0, 1) ∧ 66 + 1 = 67 := ⟨by decide +kernel, rfl⟩
theorem dWR_init_67 : decode b_WR_init 67 = .ok (.bipush (100), 2) ∧ 67 + 2 = 69 := ⟨by decide +kernel, rfl⟩
theorem dWR_init_69 : decode b_WR_init 69 = .ok (.newarray .int, 2) ∧ 69 + 2 = 71 := ⟨by decide +kernel, rfl⟩
theorem dWR_init_71 : decode b_WR_init 71 = .ok (.putfield 38, 3) ∧ 71 + 3 = 74 := ⟨by decide +kernel, rfl⟩
theorem dWR_init_74 : decode b_WR_init 74 = .ok (.aload_n 0, 1) ∧ 74 + 1 = 75 := ⟨by decide +kernel, rfl⟩
theorem dWR_init_75 : decode b_WR_init 75 = .ok (.bipush (100), 2) ∧ 75 + 2 = 77 := ⟨by decide +kernel, rfl⟩
theorem dWR_init_77 : decode b_WR_init 77 = .ok (.newarray .int, 2) ∧ 77 + 2 = 79 := ⟨by decide +kernel, rfl⟩
theorem dWR_init_79 : decode b_WR_init 79 = .ok (.putfield 41, 3) ∧ 79 + 3 = 82 := ⟨by decide +kernel, rfl⟩
theorem dWR_init_82 : decode b_WR_init 82 = .ok (.aload_n 0, 1) ∧ 82 + 1 = 83 := ⟨by decide +kernel, rfl⟩
theorem dWR_init_83 : decode b_WR_init 83 = .ok (.bipush (100), 2) ∧ 83 + 2 = 85 := ⟨by decide +kernel, rfl⟩
theorem dWR_init_85 : decode b_WR_init 85 = .ok (.newarray .int, 2) ∧ 85 + 2 = 87 := ⟨by decide +kernel, rfl⟩
theorem dWR_init_87 : decode b_WR_init 87 = .ok (.putfield 44, 3) ∧ 87 + 3 = 90 := ⟨by decide +kernel, rfl⟩
theorem dWR_init_90 : decode b_WR_init 90 = .ok (.aload_n 0, 1) ∧ 90 + 1 = 91 := ⟨by decide +kernel, rfl⟩
theorem dWR_init_91 : decode b_WR_init 91 = .ok (.aload_n 1, 1) ∧ 91 + 1 = 92 := ⟨by decide +kernel, rfl⟩
theorem dWR_init_92 : decode b_WR_init 92 = .ok (.putfield 47, 3) ∧ 92 + 3 = 95 := ⟨by decide +kernel, rfl⟩
theorem dWR_init_95 : decode b_WR_init 95 = .ok (.aload_n 0, 1) ∧ 95 + 1 = 96 := ⟨by decide +kernel, rfl⟩
theorem dWR_init_96 : decode b_WR_init 96 = .ok (.aload_n 2, 1) ∧ 96 + 1 = 97 := ⟨by decide +kernel, rfl⟩
theorem dWR_init_97 : decode b_WR_init 97 = .ok (.putfield 51, 3) ∧ 97 + 3 = 100 := ⟨by decide +kernel, rfl⟩
theorem dWR_init_100 : decode b_WR_init 100 = .ok (.return_, 1) ∧ 100 + 1 = 101 := ⟨by decide +kernel, rfl⟩
