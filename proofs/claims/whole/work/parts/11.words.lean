/-! The worlds, the words, the JDK's methods that are walked -/
def shN : Sh := []
def shM : Sh := [(12, 17, ([0, 0, 0, 1, 0, 0, 0, 0, 0, 0, 0, 5, 7, 9, 0, 11, 0], 0, 0), none), (0, 2, ([], 0, 0), none), (1, 2, ([], 1, 0), none), (0, 52, ([], 0, 0), none), (0, 52, ([], 0, 0), none)]
def shMM : Sh := [(12, 17, ([0, 0, 0, 1, 0, 0, 0, 0, 0, 0, 0, 5, 7, 9, 0, 11, 0], 0, 0), none), (0, 2, ([], 0, 0), none), (1, 2, ([], 1, 0), none), (0, 52, ([], 0, 0), none), (0, 52, ([], 0, 0), none), (12, 17, ([0, 0, 0, 1, 0, 0, 0, 0, 0, 0, 0, 15, 17, 19, 0, 21, 0], 0, 0), none), (0, 2, ([], 0, 0), none), (1, 2, ([], 1, 0), none), (0, 52, ([], 0, 0), none), (0, 52, ([], 0, 0), none)]
def shL : Sh := [(11, 14, ([5, 7, 9, 11, 0, 13, 15, 0, 0, 1, 0, 1, 1, 0], 0, 0), none), (1, 64, ([], 1, 0), none), (0, 64, ([], 0, 0), none), (0, 64, ([], 0, 0), none), (0, 64, ([], 0, 0), none), (1, 4, ([], 1, 0), none), (1, 4, ([], 1, 0), none)]
def shD : Sh := [(15, 5, ([5, 19, 0, 0, 0], 0, 0), none), (11, 14, ([7, 9, 11, 13, 0, 15, 17, 0, 0, 1, 0, 1, 1, 0], 0, 0), none), (1, 64, ([], 1, 0), none), (0, 64, ([], 0, 0), none), (0, 64, ([], 0, 0), none), (0, 64, ([], 0, 0), none), (1, 4, ([], 1, 0), none), (1, 4, ([], 1, 0), none), (11, 14, ([21, 23, 25, 27, 0, 29, 31, 0, 0, 1, 0, 1, 1, 0], 0, 0), none), (1, 64, ([], 1, 0), none), (0, 64, ([], 0, 0), none), (0, 64, ([], 0, 0), none), (0, 64, ([], 0, 0), none), (1, 4, ([], 1, 0), none), (1, 4, ([], 1, 0), none)]
def shR : Sh := [(13, 8, ([5, 0, 0, 0, 0, 0, 7, 0], 0, 0), none), (2, 500, ([], 0, 0), none), (0, 52, ([], 0, 0), none)]
def shRM : Sh := [(13, 8, ([5, 0, 0, 0, 0, 0, 7, 0], 0, 0), none), (2, 500, ([], 0, 0), none), (0, 52, ([], 0, 0), none), (12, 17, ([0, 0, 0, 1, 0, 0, 0, 0, 0, 0, 0, 11, 13, 15, 0, 17, 0], 0, 0), none), (0, 2, ([], 0, 0), none), (1, 2, ([], 1, 0), none), (0, 52, ([], 0, 0), none), (0, 52, ([], 0, 0), none)]
def shRMD : Sh := [(13, 8, ([5, 0, 0, 0, 0, 0, 7, 0], 0, 0), none), (2, 500, ([], 0, 0), none), (0, 52, ([], 0, 0), none), (12, 17, ([0, 0, 0, 1, 0, 0, 0, 0, 0, 0, 0, 11, 13, 15, 0, 17, 0], 0, 0), none), (0, 2, ([], 0, 0), none), (1, 2, ([], 1, 0), none), (0, 52, ([], 0, 0), none), (0, 52, ([], 0, 0), none), (15, 5, ([21, 35, 0, 0, 0], 0, 0), none), (11, 14, ([23, 25, 27, 29, 0, 31, 33, 0, 0, 1, 0, 1, 1, 0], 0, 0), none), (1, 64, ([], 1, 0), none), (0, 64, ([], 0, 0), none), (0, 64, ([], 0, 0), none), (0, 64, ([], 0, 0), none), (1, 4, ([], 1, 0), none), (1, 4, ([], 1, 0), none), (11, 14, ([37, 39, 41, 43, 0, 45, 47, 0, 0, 1, 0, 1, 1, 0], 0, 0), none), (1, 64, ([], 1, 0), none), (0, 64, ([], 0, 0), none), (0, 64, ([], 0, 0), none), (0, 64, ([], 0, 0), none), (1, 4, ([], 1, 0), none), (1, 4, ([], 1, 0), none)]
def shMD : Sh := [(12, 17, ([0, 0, 0, 1, 0, 0, 0, 0, 0, 0, 0, 5, 7, 9, 0, 11, 0], 0, 0), none), (0, 2, ([], 0, 0), none), (1, 2, ([], 1, 0), none), (0, 52, ([], 0, 0), none), (0, 52, ([], 0, 0), none), (15, 5, ([15, 29, 0, 0, 0], 0, 0), none), (11, 14, ([17, 19, 21, 23, 0, 25, 27, 0, 0, 1, 0, 1, 1, 0], 0, 0), none), (1, 64, ([], 1, 0), none), (0, 64, ([], 0, 0), none), (0, 64, ([], 0, 0), none), (0, 64, ([], 0, 0), none), (1, 4, ([], 1, 0), none), (1, 4, ([], 1, 0), none), (11, 14, ([31, 33, 35, 37, 0, 39, 41, 0, 0, 1, 0, 1, 1, 0], 0, 0), none), (1, 64, ([], 1, 0), none), (0, 64, ([], 0, 0), none), (0, 64, ([], 0, 0), none), (0, 64, ([], 0, 0), none), (1, 4, ([], 1, 0), none), (1, 4, ([], 1, 0), none)]
def shP : Sh := [(14, 2, ([5, 0], 0, 0), none), (2, 64, ([], 0, 0), none)]
def shPL : Sh := [(14, 2, ([5, 0], 0, 0), none), (2, 64, ([], 0, 0), none), (11, 14, ([9, 11, 13, 15, 0, 17, 19, 0, 0, 1, 0, 1, 1, 0], 0, 0), none), (1, 64, ([], 1, 0), none), (0, 64, ([], 0, 0), none), (0, 64, ([], 0, 0), none), (0, 64, ([], 0, 0), none), (1, 4, ([], 1, 0), none), (1, 4, ([], 1, 0), none)]
def shH : Sh := [(10, 3, ([5, 0, 0], 0, 0), none), (4, 10, ([], 8, 10), none), (12, 17, ([0, 0, 0, 1, 0, 0, 0, 0, 0, 0, 0, 9, 11, 13, 0, 15, 0], 0, 0), some (1, 0)), (0, 2, ([], 0, 0), some (1, 0)), (1, 2, ([], 1, 0), some (1, 0)), (0, 52, ([], 0, 0), some (1, 0)), (0, 52, ([], 0, 0), some (1, 0)), (12, 17, ([0, 0, 0, 1, 0, 0, 0, 0, 0, 0, 0, 19, 21, 23, 0, 25, 0], 0, 0), some (1, 1)), (0, 2, ([], 0, 0), some (1, 1)), (1, 2, ([], 1, 0), some (1, 1)), (0, 52, ([], 0, 0), some (1, 1)), (0, 52, ([], 0, 0), some (1, 1)), (12, 17, ([0, 0, 0, 1, 0, 0, 0, 0, 0, 0, 0, 29, 31, 33, 0, 35, 0], 0, 0), some (1, 2)), (0, 2, ([], 0, 0), some (1, 2)), (1, 2, ([], 1, 0), some (1, 2)), (0, 52, ([], 0, 0), some (1, 2)), (0, 52, ([], 0, 0), some (1, 2)), (12, 17, ([0, 0, 0, 1, 0, 0, 0, 0, 0, 0, 0, 39, 41, 43, 0, 45, 0], 0, 0), some (1, 3)), (0, 2, ([], 0, 0), some (1, 3)), (1, 2, ([], 1, 0), some (1, 3)), (0, 52, ([], 0, 0), some (1, 3)), (0, 52, ([], 0, 0), some (1, 3)), (12, 17, ([0, 0, 0, 1, 0, 0, 0, 0, 0, 0, 0, 49, 51, 53, 0, 55, 0], 0, 0), some (1, 4)), (0, 2, ([], 0, 0), some (1, 4)), (1, 2, ([], 1, 0), some (1, 4)), (0, 52, ([], 0, 0), some (1, 4)), (0, 52, ([], 0, 0), some (1, 4)), (12, 17, ([0, 0, 0, 1, 0, 0, 0, 0, 0, 0, 0, 59, 61, 63, 0, 65, 0], 0, 0), some (1, 5)), (0, 2, ([], 0, 0), some (1, 5)), (1, 2, ([], 1, 0), some (1, 5)), (0, 52, ([], 0, 0), some (1, 5)), (0, 52, ([], 0, 0), some (1, 5)), (12, 17, ([0, 0, 0, 1, 0, 0, 0, 0, 0, 0, 0, 69, 71, 73, 0, 75, 0], 0, 0), some (1, 6)), (0, 2, ([], 0, 0), some (1, 6)), (1, 2, ([], 1, 0), some (1, 6)), (0, 52, ([], 0, 0), some (1, 6)), (0, 52, ([], 0, 0), some (1, 6)), (12, 17, ([0, 0, 0, 1, 0, 0, 0, 0, 0, 0, 0, 79, 81, 83, 0, 85, 0], 0, 0), some (1, 7)), (0, 2, ([], 0, 0), some (1, 7)), (1, 2, ([], 1, 0), some (1, 7)), (0, 52, ([], 0, 0), some (1, 7)), (0, 52, ([], 0, 0), some (1, 7)), (12, 17, ([0, 0, 0, 1, 0, 0, 0, 0, 0, 0, 0, 89, 91, 93, 0, 95, 0], 0, 0), some (1, 8)), (0, 2, ([], 0, 0), some (1, 8)), (1, 2, ([], 1, 0), some (1, 8)), (0, 52, ([], 0, 0), some (1, 8)), (0, 52, ([], 0, 0), some (1, 8)), (12, 17, ([0, 0, 0, 1, 0, 0, 0, 0, 0, 0, 0, 99, 101, 103, 0, 105, 0], 0, 0), some (1, 9)), (0, 2, ([], 0, 0), some (1, 9)), (1, 2, ([], 1, 0), some (1, 9)), (0, 52, ([], 0, 0), some (1, 9)), (0, 52, ([], 0, 0), some (1, 9))]
def shHM : Sh := [(10, 3, ([5, 0, 0], 0, 0), none), (4, 10, ([], 8, 10), none), (12, 17, ([0, 0, 0, 1, 0, 0, 0, 0, 0, 0, 0, 9, 11, 13, 0, 15, 0], 0, 0), some (1, 0)), (0, 2, ([], 0, 0), some (1, 0)), (1, 2, ([], 1, 0), some (1, 0)), (0, 52, ([], 0, 0), some (1, 0)), (0, 52, ([], 0, 0), some (1, 0)), (12, 17, ([0, 0, 0, 1, 0, 0, 0, 0, 0, 0, 0, 19, 21, 23, 0, 25, 0], 0, 0), some (1, 1)), (0, 2, ([], 0, 0), some (1, 1)), (1, 2, ([], 1, 0), some (1, 1)), (0, 52, ([], 0, 0), some (1, 1)), (0, 52, ([], 0, 0), some (1, 1)), (12, 17, ([0, 0, 0, 1, 0, 0, 0, 0, 0, 0, 0, 29, 31, 33, 0, 35, 0], 0, 0), some (1, 2)), (0, 2, ([], 0, 0), some (1, 2)), (1, 2, ([], 1, 0), some (1, 2)), (0, 52, ([], 0, 0), some (1, 2)), (0, 52, ([], 0, 0), some (1, 2)), (12, 17, ([0, 0, 0, 1, 0, 0, 0, 0, 0, 0, 0, 39, 41, 43, 0, 45, 0], 0, 0), some (1, 3)), (0, 2, ([], 0, 0), some (1, 3)), (1, 2, ([], 1, 0), some (1, 3)), (0, 52, ([], 0, 0), some (1, 3)), (0, 52, ([], 0, 0), some (1, 3)), (12, 17, ([0, 0, 0, 1, 0, 0, 0, 0, 0, 0, 0, 49, 51, 53, 0, 55, 0], 0, 0), some (1, 4)), (0, 2, ([], 0, 0), some (1, 4)), (1, 2, ([], 1, 0), some (1, 4)), (0, 52, ([], 0, 0), some (1, 4)), (0, 52, ([], 0, 0), some (1, 4)), (12, 17, ([0, 0, 0, 1, 0, 0, 0, 0, 0, 0, 0, 59, 61, 63, 0, 65, 0], 0, 0), some (1, 5)), (0, 2, ([], 0, 0), some (1, 5)), (1, 2, ([], 1, 0), some (1, 5)), (0, 52, ([], 0, 0), some (1, 5)), (0, 52, ([], 0, 0), some (1, 5)), (12, 17, ([0, 0, 0, 1, 0, 0, 0, 0, 0, 0, 0, 69, 71, 73, 0, 75, 0], 0, 0), some (1, 6)), (0, 2, ([], 0, 0), some (1, 6)), (1, 2, ([], 1, 0), some (1, 6)), (0, 52, ([], 0, 0), some (1, 6)), (0, 52, ([], 0, 0), some (1, 6)), (12, 17, ([0, 0, 0, 1, 0, 0, 0, 0, 0, 0, 0, 79, 81, 83, 0, 85, 0], 0, 0), some (1, 7)), (0, 2, ([], 0, 0), some (1, 7)), (1, 2, ([], 1, 0), some (1, 7)), (0, 52, ([], 0, 0), some (1, 7)), (0, 52, ([], 0, 0), some (1, 7)), (12, 17, ([0, 0, 0, 1, 0, 0, 0, 0, 0, 0, 0, 89, 91, 93, 0, 95, 0], 0, 0), some (1, 8)), (0, 2, ([], 0, 0), some (1, 8)), (1, 2, ([], 1, 0), some (1, 8)), (0, 52, ([], 0, 0), some (1, 8)), (0, 52, ([], 0, 0), some (1, 8)), (12, 17, ([0, 0, 0, 1, 0, 0, 0, 0, 0, 0, 0, 99, 101, 103, 0, 105, 0], 0, 0), some (1, 9)), (0, 2, ([], 0, 0), some (1, 9)), (1, 2, ([], 1, 0), some (1, 9)), (0, 52, ([], 0, 0), some (1, 9)), (0, 52, ([], 0, 0), some (1, 9)), (12, 17, ([0, 0, 0, 1, 0, 0, 0, 0, 0, 0, 0, 109, 111, 113, 0, 115, 0], 0, 0), none), (0, 2, ([], 0, 0), none), (1, 2, ([], 1, 0), none), (0, 52, ([], 0, 0), none), (0, 52, ([], 0, 0), none)]
def shX : Sh := [(16, 8, ([5, 15, 25, 129, 151, 157, 171, 201], 0, 0), none), (12, 17, ([0, 0, 0, 1, 0, 0, 0, 0, 0, 0, 0, 7, 9, 11, 0, 13, 0], 0, 0), none), (0, 2, ([], 0, 0), none), (1, 2, ([], 1, 0), none), (0, 52, ([], 0, 0), none), (0, 52, ([], 0, 0), none), (12, 17, ([0, 0, 0, 1, 0, 0, 0, 0, 0, 0, 0, 17, 19, 21, 0, 23, 0], 0, 0), none), (0, 2, ([], 0, 0), none), (1, 2, ([], 1, 0), none), (0, 52, ([], 0, 0), none), (0, 52, ([], 0, 0), none), (10, 3, ([27, 0, 0], 0, 0), none), (4, 10, ([], 30, 10), none), (12, 17, ([0, 0, 0, 1, 0, 0, 0, 0, 0, 0, 0, 31, 33, 35, 0, 37, 0], 0, 0), some (12, 0)), (0, 2, ([], 0, 0), some (12, 0)), (1, 2, ([], 1, 0), some (12, 0)), (0, 52, ([], 0, 0), some (12, 0)), (0, 52, ([], 0, 0), some (12, 0)), (12, 17, ([0, 0, 0, 1, 0, 0, 0, 0, 0, 0, 0, 41, 43, 45, 0, 47, 0], 0, 0), some (12, 1)), (0, 2, ([], 0, 0), some (12, 1)), (1, 2, ([], 1, 0), some (12, 1)), (0, 52, ([], 0, 0), some (12, 1)), (0, 52, ([], 0, 0), some (12, 1)), (12, 17, ([0, 0, 0, 1, 0, 0, 0, 0, 0, 0, 0, 51, 53, 55, 0, 57, 0], 0, 0), some (12, 2)), (0, 2, ([], 0, 0), some (12, 2)), (1, 2, ([], 1, 0), some (12, 2)), (0, 52, ([], 0, 0), some (12, 2)), (0, 52, ([], 0, 0), some (12, 2)), (12, 17, ([0, 0, 0, 1, 0, 0, 0, 0, 0, 0, 0, 61, 63, 65, 0, 67, 0], 0, 0), some (12, 3)), (0, 2, ([], 0, 0), some (12, 3)), (1, 2, ([], 1, 0), some (12, 3)), (0, 52, ([], 0, 0), some (12, 3)), (0, 52, ([], 0, 0), some (12, 3)), (12, 17, ([0, 0, 0, 1, 0, 0, 0, 0, 0, 0, 0, 71, 73, 75, 0, 77, 0], 0, 0), some (12, 4)), (0, 2, ([], 0, 0), some (12, 4)), (1, 2, ([], 1, 0), some (12, 4)), (0, 52, ([], 0, 0), some (12, 4)), (0, 52, ([], 0, 0), some (12, 4)), (12, 17, ([0, 0, 0, 1, 0, 0, 0, 0, 0, 0, 0, 81, 83, 85, 0, 87, 0], 0, 0), some (12, 5)), (0, 2, ([], 0, 0), some (12, 5)), (1, 2, ([], 1, 0), some (12, 5)), (0, 52, ([], 0, 0), some (12, 5)), (0, 52, ([], 0, 0), some (12, 5)), (12, 17, ([0, 0, 0, 1, 0, 0, 0, 0, 0, 0, 0, 91, 93, 95, 0, 97, 0], 0, 0), some (12, 6)), (0, 2, ([], 0, 0), some (12, 6)), (1, 2, ([], 1, 0), some (12, 6)), (0, 52, ([], 0, 0), some (12, 6)), (0, 52, ([], 0, 0), some (12, 6)), (12, 17, ([0, 0, 0, 1, 0, 0, 0, 0, 0, 0, 0, 101, 103, 105, 0, 107, 0], 0, 0), some (12, 7)), (0, 2, ([], 0, 0), some (12, 7)), (1, 2, ([], 1, 0), some (12, 7)), (0, 52, ([], 0, 0), some (12, 7)), (0, 52, ([], 0, 0), some (12, 7)), (12, 17, ([0, 0, 0, 1, 0, 0, 0, 0, 0, 0, 0, 111, 113, 115, 0, 117, 0], 0, 0), some (12, 8)), (0, 2, ([], 0, 0), some (12, 8)), (1, 2, ([], 1, 0), some (12, 8)), (0, 52, ([], 0, 0), some (12, 8)), (0, 52, ([], 0, 0), some (12, 8)), (12, 17, ([0, 0, 0, 1, 0, 0, 0, 0, 0, 0, 0, 121, 123, 125, 0, 127, 0], 0, 0), some (12, 9)), (0, 2, ([], 0, 0), some (12, 9)), (1, 2, ([], 1, 0), some (12, 9)), (0, 52, ([], 0, 0), some (12, 9)), (0, 52, ([], 0, 0), some (12, 9)), (4, 2, ([], 132, 10), none), (12, 17, ([0, 0, 0, 1, 0, 0, 0, 0, 0, 0, 0, 133, 135, 137, 0, 139, 0], 0, 0), some (63, 0)), (0, 2, ([], 0, 0), some (63, 0)), (1, 2, ([], 1, 0), some (63, 0)), (0, 52, ([], 0, 0), some (63, 0)), (0, 52, ([], 0, 0), some (63, 0)), (12, 17, ([0, 0, 0, 1, 0, 0, 0, 0, 0, 0, 0, 143, 145, 147, 0, 149, 0], 0, 0), some (63, 1)), (0, 2, ([], 0, 0), some (63, 1)), (1, 2, ([], 1, 0), some (63, 1)), (0, 52, ([], 0, 0), some (63, 1)), (0, 52, ([], 0, 0), some (63, 1)), (13, 8, ([153, 0, 0, 0, 0, 0, 155, 0], 0, 0), none), (2, 500, ([], 0, 0), none), (0, 52, ([], 0, 0), none), (11, 14, ([159, 161, 163, 165, 0, 167, 169, 0, 0, 1, 0, 1, 1, 0], 0, 0), none), (1, 64, ([], 1, 0), none), (0, 64, ([], 0, 0), none), (0, 64, ([], 0, 0), none), (0, 64, ([], 0, 0), none), (1, 4, ([], 1, 0), none), (1, 4, ([], 1, 0), none), (15, 5, ([173, 187, 0, 0, 0], 0, 0), none), (11, 14, ([175, 177, 179, 181, 0, 183, 185, 0, 0, 1, 0, 1, 1, 0], 0, 0), none), (1, 64, ([], 1, 0), none), (0, 64, ([], 0, 0), none), (0, 64, ([], 0, 0), none), (0, 64, ([], 0, 0), none), (1, 4, ([], 1, 0), none), (1, 4, ([], 1, 0), none), (11, 14, ([189, 191, 193, 195, 0, 197, 199, 0, 0, 1, 0, 1, 1, 0], 0, 0), none), (1, 64, ([], 1, 0), none), (0, 64, ([], 0, 0), none), (0, 64, ([], 0, 0), none), (0, 64, ([], 0, 0), none), (1, 4, ([], 1, 0), none), (1, 4, ([], 1, 0), none), (14, 2, ([203, 0], 0, 0), none), (2, 64, ([], 0, 0), none)]
def shW : Sh := [(17, 32, ([0, 5, 7, 0, 29, 35, 37, 39, 0, 41, 0, 43, 0, 45, 0, 47, 49, 0, 1, 0, 51, 0, 0, 0, 0, 53, 0, 0, 0, 0, 0, 0], 0, 0), none), (0, 171, ([], 0, 0), none), (5, 10, ([], 2, 0), none), (0, 171, ([], 0, 0), none), (0, 171, ([], 0, 0), none), (0, 171, ([], 0, 0), none), (0, 171, ([], 0, 0), none), (0, 171, ([], 0, 0), none), (0, 171, ([], 0, 0), none), (0, 171, ([], 0, 0), none), (0, 171, ([], 0, 0), none), (0, 171, ([], 0, 0), none), (0, 171, ([], 0, 0), none), (5, 2, ([], 2, 0), none), (0, 171, ([], 0, 0), none), (0, 171, ([], 0, 0), none), (3, 2, ([], 0, 0), none), (0, 171, ([], 0, 0), none), (0, 500, ([], 0, 0), none), (2, 200, ([], 0, 0), none), (0, 11, ([], 0, 0), none), (0, 200, ([], 0, 0), none), (0, 2048, ([], 0, 0), none), (1, 11, ([], 1, 0), none), (1, 11, ([], 1, 0), none), (0, 52, ([], 0, 0), none)]
def shC : Sh := [(0, 171, ([], 0, 0), none), (0, 171, ([], 0, 0), none)]
def shMc : Sh := [(12, 17, ([0, 0, 0, 1, 0, 0, 0, 0, 0, 0, 0, 6, 8, 10, 0, 12, 0], 0, 0), none), (0, 2, ([], 0, 0), some (0, 11)), (1, 2, ([], 1, 0), some (0, 12)), (0, 52, ([], 0, 0), some (0, 13)), (0, 52, ([], 0, 0), some (0, 15))]
def shLc : Sh := [(11, 14, ([6, 8, 10, 12, 0, 14, 16, 0, 0, 1, 0, 1, 1, 0], 0, 0), none), (1, 64, ([], 1, 0), some (0, 0)), (0, 64, ([], 0, 0), some (0, 1)), (0, 64, ([], 0, 0), some (0, 2)), (0, 64, ([], 0, 0), some (0, 3)), (1, 4, ([], 1, 0), some (0, 5)), (1, 4, ([], 1, 0), some (0, 6))]
def shDc : Sh := [(15, 5, ([6, 20, 0, 0, 0], 0, 0), none), (11, 14, ([7, 9, 11, 13, 0, 15, 17, 0, 0, 1, 0, 1, 1, 0], 0, 0), some (0, 0)), (1, 64, ([], 1, 0), some (0, 0)), (0, 64, ([], 0, 0), some (0, 0)), (0, 64, ([], 0, 0), some (0, 0)), (0, 64, ([], 0, 0), some (0, 0)), (1, 4, ([], 1, 0), some (0, 0)), (1, 4, ([], 1, 0), some (0, 0)), (11, 14, ([21, 23, 25, 27, 0, 29, 31, 0, 0, 1, 0, 1, 1, 0], 0, 0), some (0, 1)), (1, 64, ([], 1, 0), some (0, 1)), (0, 64, ([], 0, 0), some (0, 1)), (0, 64, ([], 0, 0), some (0, 1)), (0, 64, ([], 0, 0), some (0, 1)), (1, 4, ([], 1, 0), some (0, 1)), (1, 4, ([], 1, 0), some (0, 1))]
def shRc : Sh := [(13, 8, ([6, 0, 0, 0, 0, 0, 8, 0], 0, 0), none), (2, 500, ([], 0, 0), some (0, 0)), (0, 52, ([], 0, 0), some (0, 6))]
def shPc : Sh := [(14, 2, ([6, 0], 0, 0), none), (2, 64, ([], 0, 0), some (0, 0))]
def shHc : Sh := [(10, 3, ([6, 0, 0], 0, 0), none), (4, 10, ([], 8, 10), some (0, 0)), (12, 17, ([0, 0, 0, 1, 0, 0, 0, 0, 0, 0, 0, 9, 11, 13, 0, 15, 0], 0, 0), some (1, 0)), (0, 2, ([], 0, 0), some (1, 0)), (1, 2, ([], 1, 0), some (1, 0)), (0, 52, ([], 0, 0), some (1, 0)), (0, 52, ([], 0, 0), some (1, 0)), (12, 17, ([0, 0, 0, 1, 0, 0, 0, 0, 0, 0, 0, 19, 21, 23, 0, 25, 0], 0, 0), some (1, 1)), (0, 2, ([], 0, 0), some (1, 1)), (1, 2, ([], 1, 0), some (1, 1)), (0, 52, ([], 0, 0), some (1, 1)), (0, 52, ([], 0, 0), some (1, 1)), (12, 17, ([0, 0, 0, 1, 0, 0, 0, 0, 0, 0, 0, 29, 31, 33, 0, 35, 0], 0, 0), some (1, 2)), (0, 2, ([], 0, 0), some (1, 2)), (1, 2, ([], 1, 0), some (1, 2)), (0, 52, ([], 0, 0), some (1, 2)), (0, 52, ([], 0, 0), some (1, 2)), (12, 17, ([0, 0, 0, 1, 0, 0, 0, 0, 0, 0, 0, 39, 41, 43, 0, 45, 0], 0, 0), some (1, 3)), (0, 2, ([], 0, 0), some (1, 3)), (1, 2, ([], 1, 0), some (1, 3)), (0, 52, ([], 0, 0), some (1, 3)), (0, 52, ([], 0, 0), some (1, 3)), (12, 17, ([0, 0, 0, 1, 0, 0, 0, 0, 0, 0, 0, 49, 51, 53, 0, 55, 0], 0, 0), some (1, 4)), (0, 2, ([], 0, 0), some (1, 4)), (1, 2, ([], 1, 0), some (1, 4)), (0, 52, ([], 0, 0), some (1, 4)), (0, 52, ([], 0, 0), some (1, 4)), (12, 17, ([0, 0, 0, 1, 0, 0, 0, 0, 0, 0, 0, 59, 61, 63, 0, 65, 0], 0, 0), some (1, 5)), (0, 2, ([], 0, 0), some (1, 5)), (1, 2, ([], 1, 0), some (1, 5)), (0, 52, ([], 0, 0), some (1, 5)), (0, 52, ([], 0, 0), some (1, 5)), (12, 17, ([0, 0, 0, 1, 0, 0, 0, 0, 0, 0, 0, 69, 71, 73, 0, 75, 0], 0, 0), some (1, 6)), (0, 2, ([], 0, 0), some (1, 6)), (1, 2, ([], 1, 0), some (1, 6)), (0, 52, ([], 0, 0), some (1, 6)), (0, 52, ([], 0, 0), some (1, 6)), (12, 17, ([0, 0, 0, 1, 0, 0, 0, 0, 0, 0, 0, 79, 81, 83, 0, 85, 0], 0, 0), some (1, 7)), (0, 2, ([], 0, 0), some (1, 7)), (1, 2, ([], 1, 0), some (1, 7)), (0, 52, ([], 0, 0), some (1, 7)), (0, 52, ([], 0, 0), some (1, 7)), (12, 17, ([0, 0, 0, 1, 0, 0, 0, 0, 0, 0, 0, 89, 91, 93, 0, 95, 0], 0, 0), some (1, 8)), (0, 2, ([], 0, 0), some (1, 8)), (1, 2, ([], 1, 0), some (1, 8)), (0, 52, ([], 0, 0), some (1, 8)), (0, 52, ([], 0, 0), some (1, 8)), (12, 17, ([0, 0, 0, 1, 0, 0, 0, 0, 0, 0, 0, 99, 101, 103, 0, 105, 0], 0, 0), some (1, 9)), (0, 2, ([], 0, 0), some (1, 9)), (1, 2, ([], 1, 0), some (1, 9)), (0, 52, ([], 0, 0), some (1, 9)), (0, 52, ([], 0, 0), some (1, 9))]
def shXc : Sh := [(16, 8, ([6, 16, 26, 130, 152, 158, 172, 202], 0, 0), none), (12, 17, ([0, 0, 0, 1, 0, 0, 0, 0, 0, 0, 0, 7, 9, 11, 0, 13, 0], 0, 0), some (0, 0)), (0, 2, ([], 0, 0), some (0, 0)), (1, 2, ([], 1, 0), some (0, 0)), (0, 52, ([], 0, 0), some (0, 0)), (0, 52, ([], 0, 0), some (0, 0)), (12, 17, ([0, 0, 0, 1, 0, 0, 0, 0, 0, 0, 0, 17, 19, 21, 0, 23, 0], 0, 0), some (0, 1)), (0, 2, ([], 0, 0), some (0, 1)), (1, 2, ([], 1, 0), some (0, 1)), (0, 52, ([], 0, 0), some (0, 1)), (0, 52, ([], 0, 0), some (0, 1)), (10, 3, ([27, 0, 0], 0, 0), some (0, 2)), (4, 10, ([], 30, 10), some (0, 2)), (12, 17, ([0, 0, 0, 1, 0, 0, 0, 0, 0, 0, 0, 31, 33, 35, 0, 37, 0], 0, 0), some (12, 0)), (0, 2, ([], 0, 0), some (12, 0)), (1, 2, ([], 1, 0), some (12, 0)), (0, 52, ([], 0, 0), some (12, 0)), (0, 52, ([], 0, 0), some (12, 0)), (12, 17, ([0, 0, 0, 1, 0, 0, 0, 0, 0, 0, 0, 41, 43, 45, 0, 47, 0], 0, 0), some (12, 1)), (0, 2, ([], 0, 0), some (12, 1)), (1, 2, ([], 1, 0), some (12, 1)), (0, 52, ([], 0, 0), some (12, 1)), (0, 52, ([], 0, 0), some (12, 1)), (12, 17, ([0, 0, 0, 1, 0, 0, 0, 0, 0, 0, 0, 51, 53, 55, 0, 57, 0], 0, 0), some (12, 2)), (0, 2, ([], 0, 0), some (12, 2)), (1, 2, ([], 1, 0), some (12, 2)), (0, 52, ([], 0, 0), some (12, 2)), (0, 52, ([], 0, 0), some (12, 2)), (12, 17, ([0, 0, 0, 1, 0, 0, 0, 0, 0, 0, 0, 61, 63, 65, 0, 67, 0], 0, 0), some (12, 3)), (0, 2, ([], 0, 0), some (12, 3)), (1, 2, ([], 1, 0), some (12, 3)), (0, 52, ([], 0, 0), some (12, 3)), (0, 52, ([], 0, 0), some (12, 3)), (12, 17, ([0, 0, 0, 1, 0, 0, 0, 0, 0, 0, 0, 71, 73, 75, 0, 77, 0], 0, 0), some (12, 4)), (0, 2, ([], 0, 0), some (12, 4)), (1, 2, ([], 1, 0), some (12, 4)), (0, 52, ([], 0, 0), some (12, 4)), (0, 52, ([], 0, 0), some (12, 4)), (12, 17, ([0, 0, 0, 1, 0, 0, 0, 0, 0, 0, 0, 81, 83, 85, 0, 87, 0], 0, 0), some (12, 5)), (0, 2, ([], 0, 0), some (12, 5)), (1, 2, ([], 1, 0), some (12, 5)), (0, 52, ([], 0, 0), some (12, 5)), (0, 52, ([], 0, 0), some (12, 5)), (12, 17, ([0, 0, 0, 1, 0, 0, 0, 0, 0, 0, 0, 91, 93, 95, 0, 97, 0], 0, 0), some (12, 6)), (0, 2, ([], 0, 0), some (12, 6)), (1, 2, ([], 1, 0), some (12, 6)), (0, 52, ([], 0, 0), some (12, 6)), (0, 52, ([], 0, 0), some (12, 6)), (12, 17, ([0, 0, 0, 1, 0, 0, 0, 0, 0, 0, 0, 101, 103, 105, 0, 107, 0], 0, 0), some (12, 7)), (0, 2, ([], 0, 0), some (12, 7)), (1, 2, ([], 1, 0), some (12, 7)), (0, 52, ([], 0, 0), some (12, 7)), (0, 52, ([], 0, 0), some (12, 7)), (12, 17, ([0, 0, 0, 1, 0, 0, 0, 0, 0, 0, 0, 111, 113, 115, 0, 117, 0], 0, 0), some (12, 8)), (0, 2, ([], 0, 0), some (12, 8)), (1, 2, ([], 1, 0), some (12, 8)), (0, 52, ([], 0, 0), some (12, 8)), (0, 52, ([], 0, 0), some (12, 8)), (12, 17, ([0, 0, 0, 1, 0, 0, 0, 0, 0, 0, 0, 121, 123, 125, 0, 127, 0], 0, 0), some (12, 9)), (0, 2, ([], 0, 0), some (12, 9)), (1, 2, ([], 1, 0), some (12, 9)), (0, 52, ([], 0, 0), some (12, 9)), (0, 52, ([], 0, 0), some (12, 9)), (4, 2, ([], 132, 10), some (0, 3)), (12, 17, ([0, 0, 0, 1, 0, 0, 0, 0, 0, 0, 0, 133, 135, 137, 0, 139, 0], 0, 0), some (63, 0)), (0, 2, ([], 0, 0), some (63, 0)), (1, 2, ([], 1, 0), some (63, 0)), (0, 52, ([], 0, 0), some (63, 0)), (0, 52, ([], 0, 0), some (63, 0)), (12, 17, ([0, 0, 0, 1, 0, 0, 0, 0, 0, 0, 0, 143, 145, 147, 0, 149, 0], 0, 0), some (63, 1)), (0, 2, ([], 0, 0), some (63, 1)), (1, 2, ([], 1, 0), some (63, 1)), (0, 52, ([], 0, 0), some (63, 1)), (0, 52, ([], 0, 0), some (63, 1)), (13, 8, ([153, 0, 0, 0, 0, 0, 155, 0], 0, 0), some (0, 4)), (2, 500, ([], 0, 0), some (0, 4)), (0, 52, ([], 0, 0), some (0, 4)), (11, 14, ([159, 161, 163, 165, 0, 167, 169, 0, 0, 1, 0, 1, 1, 0], 0, 0), some (0, 5)), (1, 64, ([], 1, 0), some (0, 5)), (0, 64, ([], 0, 0), some (0, 5)), (0, 64, ([], 0, 0), some (0, 5)), (0, 64, ([], 0, 0), some (0, 5)), (1, 4, ([], 1, 0), some (0, 5)), (1, 4, ([], 1, 0), some (0, 5)), (15, 5, ([173, 187, 0, 0, 0], 0, 0), some (0, 6)), (11, 14, ([175, 177, 179, 181, 0, 183, 185, 0, 0, 1, 0, 1, 1, 0], 0, 0), some (0, 6)), (1, 64, ([], 1, 0), some (0, 6)), (0, 64, ([], 0, 0), some (0, 6)), (0, 64, ([], 0, 0), some (0, 6)), (0, 64, ([], 0, 0), some (0, 6)), (1, 4, ([], 1, 0), some (0, 6)), (1, 4, ([], 1, 0), some (0, 6)), (11, 14, ([189, 191, 193, 195, 0, 197, 199, 0, 0, 1, 0, 1, 1, 0], 0, 0), some (0, 6)), (1, 64, ([], 1, 0), some (0, 6)), (0, 64, ([], 0, 0), some (0, 6)), (0, 64, ([], 0, 0), some (0, 6)), (0, 64, ([], 0, 0), some (0, 6)), (1, 4, ([], 1, 0), some (0, 6)), (1, 4, ([], 1, 0), some (0, 6)), (14, 2, ([203, 0], 0, 0), some (0, 7)), (2, 64, ([], 0, 0), some (0, 7))]
def shWc : Sh := [(17, 32, ([0, 6, 8, 0, 30, 36, 38, 40, 0, 42, 0, 44, 0, 46, 0, 48, 50, 0, 1, 0, 52, 0, 0, 0, 0, 54, 0, 0, 0, 0, 0, 0], 0, 0), none), (0, 171, ([], 0, 0), some (0, 1)), (5, 10, ([9, 11, 13, 15, 17, 19, 21, 23, 25, 27], 0, 0), some (0, 2)), (0, 171, ([], 0, 0), some (0, 2)), (0, 171, ([], 0, 0), some (0, 2)), (0, 171, ([], 0, 0), some (0, 2)), (0, 171, ([], 0, 0), some (0, 2)), (0, 171, ([], 0, 0), some (0, 2)), (0, 171, ([], 0, 0), some (0, 2)), (0, 171, ([], 0, 0), some (0, 2)), (0, 171, ([], 0, 0), some (0, 2)), (0, 171, ([], 0, 0), some (0, 2)), (0, 171, ([], 0, 0), some (0, 2)), (5, 2, ([31, 33], 0, 0), some (0, 4)), (0, 171, ([], 0, 0), some (0, 4)), (0, 171, ([], 0, 0), some (0, 4)), (3, 2, ([], 0, 0), some (0, 5)), (0, 171, ([], 0, 0), some (0, 6)), (0, 500, ([], 0, 0), some (0, 7)), (2, 200, ([], 0, 0), some (0, 9)), (0, 11, ([], 0, 0), some (0, 11)), (0, 200, ([], 0, 0), some (0, 13)), (0, 2048, ([], 0, 0), some (0, 15)), (1, 11, ([], 1, 0), some (0, 16)), (1, 11, ([], 1, 0), some (0, 20)), (0, 52, ([], 0, 0), some (0, 25))]
def shWs : Sh := [(17, 32, ([0, 5, 7, 0, 29, 35, 37, 39, 0, 41, 0, 43, 0, 45, 0, 47, 49, 0, 1, 0, 51, 0, 0, 0, 0, 53, 0, 0, 0, 0, 0, 0], 0, 0), none), (0, 171, ([], 0, 0), none), (5, 10, ([9, 11, 13, 15, 17, 19, 21, 23, 25, 27], 0, 0), none), (0, 171, ([], 0, 0), none), (0, 171, ([], 0, 0), none), (0, 171, ([], 0, 0), none), (0, 171, ([], 0, 0), none), (0, 171, ([], 0, 0), none), (0, 171, ([], 0, 0), none), (0, 171, ([], 0, 0), none), (0, 171, ([], 0, 0), none), (0, 171, ([], 0, 0), none), (0, 171, ([], 0, 0), none), (5, 2, ([31, 33], 0, 0), none), (0, 171, ([], 0, 0), none), (0, 171, ([], 0, 0), none), (3, 2, ([], 0, 0), none), (0, 171, ([], 0, 0), none), (0, 500, ([], 0, 0), none), (2, 200, ([], 0, 0), none), (0, 11, ([], 0, 0), none), (0, 200, ([], 0, 0), none), (0, 2048, ([], 0, 0), none), (1, 11, ([], 1, 0), none), (1, 11, ([], 1, 0), none), (0, 52, ([], 0, 0), none)]
def shWt : Sh := [(17, 32, ([0, 5, 7, 0, 29, 35, 37, 39, 0, 41, 0, 43, 0, 45, 0, 47, 49, 0, 1, 0, 51, 0, 0, 0, 0, 53, 0, 0, 0, 0, 0, 0], 0, 0), none), (0, 171, ([], 0, 0), none), (5, 10, ([], 2, 0), none), (0, 171, ([], 0, 0), none), (0, 171, ([], 0, 0), none), (0, 171, ([], 0, 0), none), (0, 171, ([], 0, 0), none), (0, 171, ([], 0, 0), none), (0, 171, ([], 0, 0), none), (0, 171, ([], 0, 0), none), (0, 171, ([], 0, 0), none), (0, 171, ([], 0, 0), none), (0, 171, ([], 0, 0), none), (5, 2, ([31, 33], 0, 0), none), (0, 171, ([], 0, 0), none), (0, 171, ([], 0, 0), none), (3, 2, ([], 0, 0), none), (0, 171, ([], 0, 0), none), (0, 500, ([], 0, 0), none), (2, 200, ([], 0, 0), none), (0, 11, ([], 0, 0), none), (0, 200, ([], 0, 0), none), (0, 2048, ([], 0, 0), none), (1, 11, ([], 1, 0), none), (1, 11, ([], 1, 0), none), (0, 52, ([], 0, 0), none)]
def shQ10 : Sh := [(4, 10, ([], 6, 10), none), (12, 17, ([0, 0, 0, 1, 0, 0, 0, 0, 0, 0, 0, 7, 9, 11, 0, 13, 0], 0, 0), some (0, 0)), (0, 2, ([], 0, 0), some (0, 0)), (1, 2, ([], 1, 0), some (0, 0)), (0, 52, ([], 0, 0), some (0, 0)), (0, 52, ([], 0, 0), some (0, 0)), (12, 17, ([0, 0, 0, 1, 0, 0, 0, 0, 0, 0, 0, 17, 19, 21, 0, 23, 0], 0, 0), some (0, 1)), (0, 2, ([], 0, 0), some (0, 1)), (1, 2, ([], 1, 0), some (0, 1)), (0, 52, ([], 0, 0), some (0, 1)), (0, 52, ([], 0, 0), some (0, 1)), (12, 17, ([0, 0, 0, 1, 0, 0, 0, 0, 0, 0, 0, 27, 29, 31, 0, 33, 0], 0, 0), some (0, 2)), (0, 2, ([], 0, 0), some (0, 2)), (1, 2, ([], 1, 0), some (0, 2)), (0, 52, ([], 0, 0), some (0, 2)), (0, 52, ([], 0, 0), some (0, 2)), (12, 17, ([0, 0, 0, 1, 0, 0, 0, 0, 0, 0, 0, 37, 39, 41, 0, 43, 0], 0, 0), some (0, 3)), (0, 2, ([], 0, 0), some (0, 3)), (1, 2, ([], 1, 0), some (0, 3)), (0, 52, ([], 0, 0), some (0, 3)), (0, 52, ([], 0, 0), some (0, 3)), (12, 17, ([0, 0, 0, 1, 0, 0, 0, 0, 0, 0, 0, 47, 49, 51, 0, 53, 0], 0, 0), some (0, 4)), (0, 2, ([], 0, 0), some (0, 4)), (1, 2, ([], 1, 0), some (0, 4)), (0, 52, ([], 0, 0), some (0, 4)), (0, 52, ([], 0, 0), some (0, 4)), (12, 17, ([0, 0, 0, 1, 0, 0, 0, 0, 0, 0, 0, 57, 59, 61, 0, 63, 0], 0, 0), some (0, 5)), (0, 2, ([], 0, 0), some (0, 5)), (1, 2, ([], 1, 0), some (0, 5)), (0, 52, ([], 0, 0), some (0, 5)), (0, 52, ([], 0, 0), some (0, 5)), (12, 17, ([0, 0, 0, 1, 0, 0, 0, 0, 0, 0, 0, 67, 69, 71, 0, 73, 0], 0, 0), some (0, 6)), (0, 2, ([], 0, 0), some (0, 6)), (1, 2, ([], 1, 0), some (0, 6)), (0, 52, ([], 0, 0), some (0, 6)), (0, 52, ([], 0, 0), some (0, 6)), (12, 17, ([0, 0, 0, 1, 0, 0, 0, 0, 0, 0, 0, 77, 79, 81, 0, 83, 0], 0, 0), some (0, 7)), (0, 2, ([], 0, 0), some (0, 7)), (1, 2, ([], 1, 0), some (0, 7)), (0, 52, ([], 0, 0), some (0, 7)), (0, 52, ([], 0, 0), some (0, 7)), (12, 17, ([0, 0, 0, 1, 0, 0, 0, 0, 0, 0, 0, 87, 89, 91, 0, 93, 0], 0, 0), some (0, 8)), (0, 2, ([], 0, 0), some (0, 8)), (1, 2, ([], 1, 0), some (0, 8)), (0, 52, ([], 0, 0), some (0, 8)), (0, 52, ([], 0, 0), some (0, 8)), (12, 17, ([0, 0, 0, 1, 0, 0, 0, 0, 0, 0, 0, 97, 99, 101, 0, 103, 0], 0, 0), some (0, 9)), (0, 2, ([], 0, 0), some (0, 9)), (1, 2, ([], 1, 0), some (0, 9)), (0, 52, ([], 0, 0), some (0, 9)), (0, 52, ([], 0, 0), some (0, 9))]
def shQ2 : Sh := [(4, 2, ([], 6, 10), none), (12, 17, ([0, 0, 0, 1, 0, 0, 0, 0, 0, 0, 0, 7, 9, 11, 0, 13, 0], 0, 0), some (0, 0)), (0, 2, ([], 0, 0), some (0, 0)), (1, 2, ([], 1, 0), some (0, 0)), (0, 52, ([], 0, 0), some (0, 0)), (0, 52, ([], 0, 0), some (0, 0)), (12, 17, ([0, 0, 0, 1, 0, 0, 0, 0, 0, 0, 0, 17, 19, 21, 0, 23, 0], 0, 0), some (0, 1)), (0, 2, ([], 0, 0), some (0, 1)), (1, 2, ([], 1, 0), some (0, 1)), (0, 52, ([], 0, 0), some (0, 1)), (0, 52, ([], 0, 0), some (0, 1))]
def shA10 : Sh := [(5, 10, ([5, 7, 9, 11, 13, 15, 17, 19, 21, 23], 0, 0), none), (0, 171, ([], 0, 0), none), (0, 171, ([], 0, 0), none), (0, 171, ([], 0, 0), none), (0, 171, ([], 0, 0), none), (0, 171, ([], 0, 0), none), (0, 171, ([], 0, 0), none), (0, 171, ([], 0, 0), none), (0, 171, ([], 0, 0), none), (0, 171, ([], 0, 0), none), (0, 171, ([], 0, 0), none)]
def shA2 : Sh := [(5, 2, ([5, 7], 0, 0), none), (0, 171, ([], 0, 0), none), (0, 171, ([], 0, 0), none)]
abbrev cJ_Long_bitCount : ByteArray := prog_16_method_50_code
def yJ_Long_bitCount : MethodName := ⟨"java/lang/Long", "bitCount", "(J)I"⟩
theorem dJ_Long_bitCount_0 : decode cJ_Long_bitCount 0 = .ok (.lload_n 0, 1) := by decide +kernel
theorem dJ_Long_bitCount_1 : decode cJ_Long_bitCount 1 = .ok (.lload_n 0, 1) := by decide +kernel
theorem dJ_Long_bitCount_2 : decode cJ_Long_bitCount 2 = .ok (.iconst 1, 1) := by decide +kernel
theorem dJ_Long_bitCount_3 : decode cJ_Long_bitCount 3 = .ok (.lushr, 1) := by decide +kernel
theorem dJ_Long_bitCount_4 : decode cJ_Long_bitCount 4 = .ok (.ldc2_w 314, 3) := by decide +kernel
theorem dJ_Long_bitCount_7 : decode cJ_Long_bitCount 7 = .ok (.land, 1) := by decide +kernel
theorem dJ_Long_bitCount_8 : decode cJ_Long_bitCount 8 = .ok (.lsub, 1) := by decide +kernel
theorem dJ_Long_bitCount_9 : decode cJ_Long_bitCount 9 = .ok (.lstore_n 0, 1) := by decide +kernel
theorem dJ_Long_bitCount_10 : decode cJ_Long_bitCount 10 = .ok (.lload_n 0, 1) := by decide +kernel
theorem dJ_Long_bitCount_11 : decode cJ_Long_bitCount 11 = .ok (.ldc2_w 316, 3) := by decide +kernel
theorem dJ_Long_bitCount_14 : decode cJ_Long_bitCount 14 = .ok (.land, 1) := by decide +kernel
theorem dJ_Long_bitCount_15 : decode cJ_Long_bitCount 15 = .ok (.lload_n 0, 1) := by decide +kernel
theorem dJ_Long_bitCount_16 : decode cJ_Long_bitCount 16 = .ok (.iconst 2, 1) := by decide +kernel
theorem dJ_Long_bitCount_17 : decode cJ_Long_bitCount 17 = .ok (.lushr, 1) := by decide +kernel
theorem dJ_Long_bitCount_18 : decode cJ_Long_bitCount 18 = .ok (.ldc2_w 316, 3) := by decide +kernel
theorem dJ_Long_bitCount_21 : decode cJ_Long_bitCount 21 = .ok (.land, 1) := by decide +kernel
theorem dJ_Long_bitCount_22 : decode cJ_Long_bitCount 22 = .ok (.ladd, 1) := by decide +kernel
theorem dJ_Long_bitCount_23 : decode cJ_Long_bitCount 23 = .ok (.lstore_n 0, 1) := by decide +kernel
theorem dJ_Long_bitCount_24 : decode cJ_Long_bitCount 24 = .ok (.lload_n 0, 1) := by decide +kernel
theorem dJ_Long_bitCount_25 : decode cJ_Long_bitCount 25 = .ok (.lload_n 0, 1) := by decide +kernel
theorem dJ_Long_bitCount_26 : decode cJ_Long_bitCount 26 = .ok (.iconst 4, 1) := by decide +kernel
theorem dJ_Long_bitCount_27 : decode cJ_Long_bitCount 27 = .ok (.lushr, 1) := by decide +kernel
theorem dJ_Long_bitCount_28 : decode cJ_Long_bitCount 28 = .ok (.ladd, 1) := by decide +kernel
theorem dJ_Long_bitCount_29 : decode cJ_Long_bitCount 29 = .ok (.ldc2_w 318, 3) := by decide +kernel
theorem dJ_Long_bitCount_32 : decode cJ_Long_bitCount 32 = .ok (.land, 1) := by decide +kernel
theorem dJ_Long_bitCount_33 : decode cJ_Long_bitCount 33 = .ok (.lstore_n 0, 1) := by decide +kernel
theorem dJ_Long_bitCount_34 : decode cJ_Long_bitCount 34 = .ok (.lload_n 0, 1) := by decide +kernel
theorem dJ_Long_bitCount_35 : decode cJ_Long_bitCount 35 = .ok (.lload_n 0, 1) := by decide +kernel
theorem dJ_Long_bitCount_36 : decode cJ_Long_bitCount 36 = .ok (.bipush 8, 2) := by decide +kernel
theorem dJ_Long_bitCount_38 : decode cJ_Long_bitCount 38 = .ok (.lushr, 1) := by decide +kernel
theorem dJ_Long_bitCount_39 : decode cJ_Long_bitCount 39 = .ok (.ladd, 1) := by decide +kernel
theorem dJ_Long_bitCount_40 : decode cJ_Long_bitCount 40 = .ok (.lstore_n 0, 1) := by decide +kernel
theorem dJ_Long_bitCount_41 : decode cJ_Long_bitCount 41 = .ok (.lload_n 0, 1) := by decide +kernel
theorem dJ_Long_bitCount_42 : decode cJ_Long_bitCount 42 = .ok (.lload_n 0, 1) := by decide +kernel
theorem dJ_Long_bitCount_43 : decode cJ_Long_bitCount 43 = .ok (.bipush 16, 2) := by decide +kernel
theorem dJ_Long_bitCount_45 : decode cJ_Long_bitCount 45 = .ok (.lushr, 1) := by decide +kernel
theorem dJ_Long_bitCount_46 : decode cJ_Long_bitCount 46 = .ok (.ladd, 1) := by decide +kernel
theorem dJ_Long_bitCount_47 : decode cJ_Long_bitCount 47 = .ok (.lstore_n 0, 1) := by decide +kernel
theorem dJ_Long_bitCount_48 : decode cJ_Long_bitCount 48 = .ok (.lload_n 0, 1) := by decide +kernel
theorem dJ_Long_bitCount_49 : decode cJ_Long_bitCount 49 = .ok (.lload_n 0, 1) := by decide +kernel
theorem dJ_Long_bitCount_50 : decode cJ_Long_bitCount 50 = .ok (.bipush 32, 2) := by decide +kernel
theorem dJ_Long_bitCount_52 : decode cJ_Long_bitCount 52 = .ok (.lushr, 1) := by decide +kernel
theorem dJ_Long_bitCount_53 : decode cJ_Long_bitCount 53 = .ok (.ladd, 1) := by decide +kernel
theorem dJ_Long_bitCount_54 : decode cJ_Long_bitCount 54 = .ok (.lstore_n 0, 1) := by decide +kernel
theorem dJ_Long_bitCount_55 : decode cJ_Long_bitCount 55 = .ok (.lload_n 0, 1) := by decide +kernel
theorem dJ_Long_bitCount_56 : decode cJ_Long_bitCount 56 = .ok (.l2i, 1) := by decide +kernel
theorem dJ_Long_bitCount_57 : decode cJ_Long_bitCount 57 = .ok (.bipush 127, 2) := by decide +kernel
theorem dJ_Long_bitCount_59 : decode cJ_Long_bitCount 59 = .ok (.iand, 1) := by decide +kernel
theorem dJ_Long_bitCount_60 : decode cJ_Long_bitCount 60 = .ok (.ireturn, 1) := by decide +kernel
abbrev cJ_String_length : ByteArray := prog_19_method_54_code
def yJ_String_length : MethodName := ⟨"java/lang/String", "length", "()I"⟩
theorem dJ_String_length_0 : decode cJ_String_length 0 = .ok (.aload_n 0, 1) := by decide +kernel
theorem dJ_String_length_1 : decode cJ_String_length 1 = .ok (.getfield 9, 3) := by decide +kernel
theorem dJ_String_length_4 : decode cJ_String_length 4 = .ok (.arraylength, 1) := by decide +kernel
theorem dJ_String_length_5 : decode cJ_String_length 5 = .ok (.aload_n 0, 1) := by decide +kernel
theorem dJ_String_length_6 : decode cJ_String_length 6 = .ok (.invokevirtual 335, 3) := by decide +kernel
theorem dJ_String_length_9 : decode cJ_String_length 9 = .ok (.ishr, 1) := by decide +kernel
theorem dJ_String_length_10 : decode cJ_String_length 10 = .ok (.ireturn, 1) := by decide +kernel
abbrev cJ_String_coder : ByteArray := prog_19_method_152_code
def yJ_String_coder : MethodName := ⟨"java/lang/String", "coder", "()B"⟩
theorem dJ_String_coder_0 : decode cJ_String_coder 0 = .ok (.getstatic 38, 3) := by decide +kernel
theorem dJ_String_coder_3 : decode cJ_String_coder 3 = .ok (.ifCond .eq 10, 3) := by decide +kernel
theorem dJ_String_coder_6 : decode cJ_String_coder 6 = .ok (.aload_n 0, 1) := by decide +kernel
theorem dJ_String_coder_7 : decode cJ_String_coder 7 = .ok (.getfield 15, 3) := by decide +kernel
theorem dJ_String_coder_10 : decode cJ_String_coder 10 = .ok (.goto 4, 3) := by decide +kernel
theorem dJ_String_coder_13 : decode cJ_String_coder 13 = .ok (.iconst 1, 1) := by decide +kernel
theorem dJ_String_coder_14 : decode cJ_String_coder 14 = .ok (.ireturn, 1) := by decide +kernel
abbrev cJ_String_charAt : ByteArray := prog_19_method_56_code
def yJ_String_charAt : MethodName := ⟨"java/lang/String", "charAt", "(I)C"⟩
theorem dJ_String_charAt_0 : decode cJ_String_charAt 0 = .ok (.aload_n 0, 1) := by decide +kernel
theorem dJ_String_charAt_1 : decode cJ_String_charAt 1 = .ok (.invokevirtual 492, 3) := by decide +kernel
theorem dJ_String_charAt_4 : decode cJ_String_charAt 4 = .ok (.ifCond .eq 12, 3) := by decide +kernel
theorem dJ_String_charAt_7 : decode cJ_String_charAt 7 = .ok (.aload_n 0, 1) := by decide +kernel
theorem dJ_String_charAt_8 : decode cJ_String_charAt 8 = .ok (.getfield 9, 3) := by decide +kernel
theorem dJ_String_charAt_11 : decode cJ_String_charAt 11 = .ok (.iload_n 1, 1) := by decide +kernel
theorem dJ_String_charAt_12 : decode cJ_String_charAt 12 = .ok (.invokestatic 495, 3) := by decide +kernel
theorem dJ_String_charAt_15 : decode cJ_String_charAt 15 = .ok (.ireturn, 1) := by decide +kernel
theorem dJ_String_charAt_16 : decode cJ_String_charAt 16 = .ok (.aload_n 0, 1) := by decide +kernel
theorem dJ_String_charAt_17 : decode cJ_String_charAt 17 = .ok (.getfield 9, 3) := by decide +kernel
theorem dJ_String_charAt_20 : decode cJ_String_charAt 20 = .ok (.iload_n 1, 1) := by decide +kernel
theorem dJ_String_charAt_21 : decode cJ_String_charAt 21 = .ok (.invokestatic 498, 3) := by decide +kernel
theorem dJ_String_charAt_24 : decode cJ_String_charAt 24 = .ok (.ireturn, 1) := by decide +kernel
abbrev cJ_String_isLatin1 : ByteArray := prog_19_method_154_code
def yJ_String_isLatin1 : MethodName := ⟨"java/lang/String", "isLatin1", "()Z"⟩
theorem dJ_String_isLatin1_0 : decode cJ_String_isLatin1 0 = .ok (.getstatic 38, 3) := by decide +kernel
theorem dJ_String_isLatin1_3 : decode cJ_String_isLatin1 3 = .ok (.ifCond .eq 14, 3) := by decide +kernel
theorem dJ_String_isLatin1_6 : decode cJ_String_isLatin1 6 = .ok (.aload_n 0, 1) := by decide +kernel
theorem dJ_String_isLatin1_7 : decode cJ_String_isLatin1 7 = .ok (.getfield 15, 3) := by decide +kernel
theorem dJ_String_isLatin1_10 : decode cJ_String_isLatin1 10 = .ok (.ifCond .ne 7, 3) := by decide +kernel
theorem dJ_String_isLatin1_13 : decode cJ_String_isLatin1 13 = .ok (.iconst 1, 1) := by decide +kernel
theorem dJ_String_isLatin1_14 : decode cJ_String_isLatin1 14 = .ok (.goto 4, 3) := by decide +kernel
theorem dJ_String_isLatin1_17 : decode cJ_String_isLatin1 17 = .ok (.iconst 0, 1) := by decide +kernel
theorem dJ_String_isLatin1_18 : decode cJ_String_isLatin1 18 = .ok (.ireturn, 1) := by decide +kernel
abbrev cJ_StringLatin1_charAt : ByteArray := prog_20_method_2_code
def yJ_StringLatin1_charAt : MethodName := ⟨"java/lang/StringLatin1", "charAt", "([BI)C"⟩
theorem dJ_StringLatin1_charAt_0 : decode cJ_StringLatin1_charAt 0 = .ok (.iload_n 1, 1) := by decide +kernel
theorem dJ_StringLatin1_charAt_1 : decode cJ_StringLatin1_charAt 1 = .ok (.aload_n 0, 1) := by decide +kernel
theorem dJ_StringLatin1_charAt_2 : decode cJ_StringLatin1_charAt 2 = .ok (.arraylength, 1) := by decide +kernel
theorem dJ_StringLatin1_charAt_3 : decode cJ_StringLatin1_charAt 3 = .ok (.invokestatic 9, 3) := by decide +kernel
theorem dJ_StringLatin1_charAt_6 : decode cJ_StringLatin1_charAt 6 = .ok (.aload_n 0, 1) := by decide +kernel
theorem dJ_StringLatin1_charAt_7 : decode cJ_StringLatin1_charAt 7 = .ok (.iload_n 1, 1) := by decide +kernel
theorem dJ_StringLatin1_charAt_8 : decode cJ_StringLatin1_charAt 8 = .ok (.baload, 1) := by decide +kernel
theorem dJ_StringLatin1_charAt_9 : decode cJ_StringLatin1_charAt 9 = .ok (.sipush 255, 3) := by decide +kernel
theorem dJ_StringLatin1_charAt_12 : decode cJ_StringLatin1_charAt 12 = .ok (.iand, 1) := by decide +kernel
theorem dJ_StringLatin1_charAt_13 : decode cJ_StringLatin1_charAt 13 = .ok (.i2c, 1) := by decide +kernel
theorem dJ_StringLatin1_charAt_14 : decode cJ_StringLatin1_charAt 14 = .ok (.ireturn, 1) := by decide +kernel
abbrev cJ_String_checkIndex : ByteArray := prog_19_method_155_code
def yJ_String_checkIndex : MethodName := ⟨"java/lang/String", "checkIndex", "(II)V"⟩
theorem dJ_String_checkIndex_0 : decode cJ_String_checkIndex 0 = .ok (.iload_n 0, 1) := by decide +kernel
theorem dJ_String_checkIndex_1 : decode cJ_String_checkIndex 1 = .ok (.iload_n 1, 1) := by decide +kernel
theorem dJ_String_checkIndex_2 : decode cJ_String_checkIndex 2 = .ok (.getstatic 1053, 3) := by decide +kernel
theorem dJ_String_checkIndex_5 : decode cJ_String_checkIndex 5 = .ok (.invokestatic 1059, 3) := by decide +kernel
theorem dJ_String_checkIndex_8 : decode cJ_String_checkIndex 8 = .ok (.pop, 1) := by decide +kernel
theorem dJ_String_checkIndex_9 : decode cJ_String_checkIndex 9 = .ok (.return_, 1) := by decide +kernel
abbrev cJ_Preconditions_checkIndex : ByteArray := prog_27_method_11_code
def yJ_Preconditions_checkIndex : MethodName := ⟨"jdk/internal/util/Preconditions", "checkIndex", "(IILjava/util/function/BiFunction;)I"⟩
theorem dJ_Preconditions_checkIndex_0 : decode cJ_Preconditions_checkIndex 0 = .ok (.iload_n 0, 1) := by decide +kernel
theorem dJ_Preconditions_checkIndex_1 : decode cJ_Preconditions_checkIndex 1 = .ok (.ifCond .lt 8, 3) := by decide +kernel
theorem dJ_Preconditions_checkIndex_4 : decode cJ_Preconditions_checkIndex 4 = .ok (.iload_n 0, 1) := by decide +kernel
theorem dJ_Preconditions_checkIndex_5 : decode cJ_Preconditions_checkIndex 5 = .ok (.iload_n 1, 1) := by decide +kernel
theorem dJ_Preconditions_checkIndex_6 : decode cJ_Preconditions_checkIndex 6 = .ok (.if_icmp .lt 10, 3) := by decide +kernel
theorem dJ_Preconditions_checkIndex_9 : decode cJ_Preconditions_checkIndex 9 = .ok (.aload_n 2, 1) := by decide +kernel
theorem dJ_Preconditions_checkIndex_10 : decode cJ_Preconditions_checkIndex 10 = .ok (.iload_n 0, 1) := by decide +kernel
theorem dJ_Preconditions_checkIndex_11 : decode cJ_Preconditions_checkIndex 11 = .ok (.iload_n 1, 1) := by decide +kernel
theorem dJ_Preconditions_checkIndex_12 : decode cJ_Preconditions_checkIndex 12 = .ok (.invokestatic 95, 3) := by decide +kernel
theorem dJ_Preconditions_checkIndex_15 : decode cJ_Preconditions_checkIndex 15 = .ok (.athrow, 1) := by decide +kernel
theorem dJ_Preconditions_checkIndex_16 : decode cJ_Preconditions_checkIndex 16 = .ok (.iload_n 0, 1) := by decide +kernel
theorem dJ_Preconditions_checkIndex_17 : decode cJ_Preconditions_checkIndex 17 = .ok (.ireturn, 1) := by decide +kernel
theorem gm_360 : Cond.fieldLink "java/lang/String" 38 "java/lang/String" "COMPACT_STRINGS" "Z" ∈ GT := gt_mem 360 (by decide +kernel) (by decide +kernel)
theorem gm_1666 : Cond.fieldLink "java/lang/String" 15 "java/lang/String" "coder" "B" ∈ GT := gt_mem 1666 (by decide +kernel) (by decide +kernel)
theorem gm_1665 : Cond.fieldLink "java/lang/String" 9 "java/lang/String" "value" "[B" ∈ GT := gt_mem 1665 (by decide +kernel) (by decide +kernel)
theorem gm_376 : Cond.fieldLink "java/lang/String" 1053 "jdk/internal/util/Preconditions" "SIOOBE_FORMATTER" "Ljava/util/function/BiFunction;" ∈ GT := gt_mem 376 (by decide +kernel) (by decide +kernel)
theorem gm_356 : Cond.methodLink "java/lang/String" 335 yJ_String_coder ∈ GT := gt_mem 356 (by decide +kernel) (by decide +kernel)
theorem gm_359 : Cond.code yJ_String_coder cJ_String_coder 1 (some .byte) ∈ GT := gt_mem 359 (by decide +kernel) (by decide +kernel)
theorem gm_96 : Cond.initialized "java/lang/String" ∈ GT := gt_mem 96 (by decide +kernel) (by decide +kernel)
theorem gm_357 : Cond.instanceMethod yJ_String_coder ∈ GT := gt_mem 357 (by decide +kernel) (by decide +kernel)
theorem gm_358 : Cond.selects "java/lang/String" yJ_String_coder yJ_String_coder ∈ GT := gt_mem 358 (by decide +kernel) (by decide +kernel)
theorem lk_java_lang_String_335 : LKV "java/lang/String" 335 "java/lang/String" yJ_String_coder cJ_String_coder 1 (some .byte) 0 := ⟨Or.inl gm_356, gm_357, gm_358, gm_96, gm_359, by decide +kernel⟩
theorem gm_366 : Cond.methodLink "java/lang/String" 492 yJ_String_isLatin1 ∈ GT := gt_mem 366 (by decide +kernel) (by decide +kernel)
theorem gm_369 : Cond.code yJ_String_isLatin1 cJ_String_isLatin1 1 (some .boolean) ∈ GT := gt_mem 369 (by decide +kernel) (by decide +kernel)
theorem gm_367 : Cond.instanceMethod yJ_String_isLatin1 ∈ GT := gt_mem 367 (by decide +kernel) (by decide +kernel)
theorem gm_368 : Cond.selects "java/lang/String" yJ_String_isLatin1 yJ_String_isLatin1 ∈ GT := gt_mem 368 (by decide +kernel) (by decide +kernel)
theorem lk_java_lang_String_492 : LKV "java/lang/String" 492 "java/lang/String" yJ_String_isLatin1 cJ_String_isLatin1 1 (some .boolean) 0 := ⟨Or.inl gm_366, gm_367, gm_368, gm_96, gm_369, by decide +kernel⟩
theorem gm_370 : Cond.methodLink "java/lang/String" 495 yJ_StringLatin1_charAt ∈ GT := gt_mem 370 (by decide +kernel) (by decide +kernel)
theorem gm_372 : Cond.code yJ_StringLatin1_charAt cJ_StringLatin1_charAt 2 (some .char) ∈ GT := gt_mem 372 (by decide +kernel) (by decide +kernel)
theorem gm_97 : Cond.initialized "java/lang/StringLatin1" ∈ GT := gt_mem 97 (by decide +kernel) (by decide +kernel)
theorem gm_371 : Cond.static yJ_StringLatin1_charAt ∈ GT := gt_mem 371 (by decide +kernel) (by decide +kernel)
theorem lk_java_lang_String_495 : LKS "java/lang/String" 495 yJ_StringLatin1_charAt cJ_StringLatin1_charAt 2 (some .char) 2 := ⟨Or.inl gm_370, gm_371, gm_97, gm_372, by decide +kernel⟩
theorem gm_373 : Cond.methodLink "java/lang/StringLatin1" 9 yJ_String_checkIndex ∈ GT := gt_mem 373 (by decide +kernel) (by decide +kernel)
theorem gm_375 : Cond.code yJ_String_checkIndex cJ_String_checkIndex 2 none ∈ GT := gt_mem 375 (by decide +kernel) (by decide +kernel)
theorem gm_374 : Cond.static yJ_String_checkIndex ∈ GT := gt_mem 374 (by decide +kernel) (by decide +kernel)
theorem lk_java_lang_StringLatin1_9 : LKS "java/lang/StringLatin1" 9 yJ_String_checkIndex cJ_String_checkIndex 2 none 2 := ⟨Or.inl gm_373, gm_374, gm_96, gm_375, by decide +kernel⟩
theorem gm_378 : Cond.methodLink "java/lang/String" 1059 yJ_Preconditions_checkIndex ∈ GT := gt_mem 378 (by decide +kernel) (by decide +kernel)
theorem gm_380 : Cond.code yJ_Preconditions_checkIndex cJ_Preconditions_checkIndex 3 (some .int) ∈ GT := gt_mem 380 (by decide +kernel) (by decide +kernel)
theorem gm_98 : Cond.initialized "jdk/internal/util/Preconditions" ∈ GT := gt_mem 98 (by decide +kernel) (by decide +kernel)
theorem gm_379 : Cond.static yJ_Preconditions_checkIndex ∈ GT := gt_mem 379 (by decide +kernel) (by decide +kernel)
theorem lk_java_lang_String_1059 : LKS "java/lang/String" 1059 yJ_Preconditions_checkIndex cJ_Preconditions_checkIndex 3 (some .int) 3 := ⟨Or.inl gm_378, gm_379, gm_98, gm_380, by decide +kernel⟩
theorem zk_1 : zk shN shN [] = true := by decide +kernel
theorem zs_1 : zs shN [] = true := by decide +kernel
abbrev zl_1 : List Nat := []
theorem gm_201 : Cond.methodLink RX0 1 Lib.objectInit ∈ GT := gt_mem 201 (by decide +kernel) (by decide +kernel)
theorem gm_116 : Cond.instanceMethod Lib.objectInit ∈ GT := gt_mem 116 (by decide +kernel) (by decide +kernel)
theorem gm_117 : Cond.code Lib.objectInit ⟨#[0xb1]⟩ 1 none ∈ GT := gt_mem 117 (by decide +kernel) (by decide +kernel)
theorem ti_X0 : ∀ w ∈ u_ws RX0 TX0 3, w ∈ GT := gt_ws [208, 210, 212] (by decide +kernel) (by decide +kernel)
theorem gm_204 : Cond.fieldLink RX0 11 RX0 (TX0 0).2.1 (TX0 0).2.2.1 ∈ GT := gt_mem 204 (by decide +kernel) (by decide +kernel)
theorem ff_X0_11 : FF RX0 11 0 0 := ⟨RX0, TX0, 3, tyX0, tyX0 0, rfl, ti_X0, tyX0_ok, nmX0, by decide, rfl, rfl, gm_204, rfl, tyX0_ok 0 (by decide), fun _ => ⟨rfl, rfl⟩⟩
theorem gm_202 : Cond.classLink RX0 9 RX2 ∈ GT := gt_mem 202 (by decide +kernel) (by decide +kernel)
theorem zk_2 : zk shQ10 shHc [1, 2, 3, 4, 5, 6, 7, 8, 9, 10, 11, 12, 13, 14, 15, 16, 17, 18, 19, 20, 21, 22, 23, 24, 25, 26, 27, 28, 29, 30, 31, 32, 33, 34, 35, 36, 37, 38, 39, 40, 41, 42, 43, 44, 45, 46, 47, 48, 49, 50, 51] = true := by decide +kernel
abbrev zl_2 : List Nat := [1, 2, 3, 4, 5, 6, 7, 8, 9, 10, 11, 12, 13, 14, 15, 16, 17, 18, 19, 20, 21, 22, 23, 24, 25, 26, 27, 28, 29, 30, 31, 32, 33, 34, 35, 36, 37, 38, 39, 40, 41, 42, 43, 44, 45, 46, 47, 48, 49, 50, 51]
theorem zk_3 : zcs shHc shH [(0, 0)] = true := by decide +kernel
theorem gm_123 : Cond.methodLink RX2 3 Lib.objectInit ∈ GT := gt_mem 123 (by decide +kernel) (by decide +kernel)
theorem ti_X2 : ∀ w ∈ u_ws RX2 TX2 17, w ∈ GT := gt_ws [159, 161, 163, 165, 167, 169, 171, 173, 175, 177, 179, 181, 183, 185, 187, 189, 191] (by decide +kernel) (by decide +kernel)
theorem gm_151 : Cond.fieldLink RX2 9 RX2 (TX2 11).2.1 (TX2 11).2.2.1 ∈ GT := gt_mem 151 (by decide +kernel) (by decide +kernel)
theorem ff_X2_9 : FF RX2 9 2 11 := ⟨RX2, TX2, 17, tyX2, tyX2 11, rfl, ti_X2, tyX2_ok, nmX2, by decide, rfl, rfl, gm_151, rfl, tyX2_ok 11 (by decide), fun _ => ⟨rfl, rfl⟩⟩
theorem gm_194 : Cond.arrayClass (newarray.typeOf ArrayType.int) ∈ GT := gt_mem 194 (by decide +kernel) (by decide +kernel)
theorem gm_152 : Cond.fieldLink RX2 15 RX2 (TX2 12).2.1 (TX2 12).2.2.1 ∈ GT := gt_mem 152 (by decide +kernel) (by decide +kernel)
theorem ff_X2_15 : FF RX2 15 2 12 := ⟨RX2, TX2, 17, tyX2, tyX2 12, rfl, ti_X2, tyX2_ok, nmX2, by decide, rfl, rfl, gm_152, rfl, tyX2_ok 12 (by decide), fun _ => ⟨rfl, rfl⟩⟩
theorem gm_195 : Cond.arrayClass (newarray.typeOf ArrayType.long) ∈ GT := gt_mem 195 (by decide +kernel) (by decide +kernel)
theorem gm_153 : Cond.fieldLink RX2 19 RX2 (TX2 13).2.1 (TX2 13).2.2.1 ∈ GT := gt_mem 153 (by decide +kernel) (by decide +kernel)
theorem ff_X2_19 : FF RX2 19 2 13 := ⟨RX2, TX2, 17, tyX2, tyX2 13, rfl, ti_X2, tyX2_ok, nmX2, by decide, rfl, rfl, gm_153, rfl, tyX2_ok 13 (by decide), fun _ => ⟨rfl, rfl⟩⟩
theorem gm_156 : Cond.fieldLink RX2 22 RX2 (TX2 15).2.1 (TX2 15).2.2.1 ∈ GT := gt_mem 156 (by decide +kernel) (by decide +kernel)
theorem ff_X2_22 : FF RX2 22 2 15 := ⟨RX2, TX2, 17, tyX2, tyX2 15, rfl, ti_X2, tyX2_ok, nmX2, by decide, rfl, rfl, gm_156, rfl, tyX2_ok 15 (by decide), fun _ => ⟨rfl, rfl⟩⟩
theorem zk_4 : zcs shMc shM [(0, 11), (0, 12), (0, 13), (0, 15)] = true := by decide +kernel
theorem gm_124 : Cond.fieldLink RX2 25 RX2 (TX2 0).2.1 (TX2 0).2.2.1 ∈ GT := gt_mem 124 (by decide +kernel) (by decide +kernel)
theorem fl_X2_25 : FL RX2 25 2 0 := ⟨RX2, TX2, 17, tyX2, rfl, ti_X2, tyX2_ok, nmX2, by decide, rfl, Or.inl gm_124⟩
theorem fp_X2_25 : FP RX2 25 2 0 .int := ⟨RX2, TX2, 17, tyX2, rfl, ti_X2, tyX2_ok, nmX2, by decide, rfl, Or.inl gm_124, rfl, by decide +kernel⟩
theorem gm_127 : Cond.fieldLink RX2 29 RX2 (TX2 1).2.1 (TX2 1).2.2.1 ∈ GT := gt_mem 127 (by decide +kernel) (by decide +kernel)
theorem fl_X2_29 : FL RX2 29 2 1 := ⟨RX2, TX2, 17, tyX2, rfl, ti_X2, tyX2_ok, nmX2, by decide, rfl, Or.inl gm_127⟩
theorem fp_X2_29 : FP RX2 29 2 1 .int := ⟨RX2, TX2, 17, tyX2, rfl, ti_X2, tyX2_ok, nmX2, by decide, rfl, Or.inl gm_127, rfl, by decide +kernel⟩
theorem gm_130 : Cond.fieldLink RX2 32 RX2 (TX2 2).2.1 (TX2 2).2.2.1 ∈ GT := gt_mem 130 (by decide +kernel) (by decide +kernel)
theorem fl_X2_32 : FL RX2 32 2 2 := ⟨RX2, TX2, 17, tyX2, rfl, ti_X2, tyX2_ok, nmX2, by decide, rfl, Or.inl gm_130⟩
theorem fp_X2_32 : FP RX2 32 2 2 .int := ⟨RX2, TX2, 17, tyX2, rfl, ti_X2, tyX2_ok, nmX2, by decide, rfl, Or.inl gm_130, rfl, by decide +kernel⟩
theorem gm_133 : Cond.fieldLink RX2 35 RX2 (TX2 3).2.1 (TX2 3).2.2.1 ∈ GT := gt_mem 133 (by decide +kernel) (by decide +kernel)
theorem fl_X2_35 : FL RX2 35 2 3 := ⟨RX2, TX2, 17, tyX2, rfl, ti_X2, tyX2_ok, nmX2, by decide, rfl, Or.inl gm_133⟩
theorem fp_X2_35 : FP RX2 35 2 3 .long := ⟨RX2, TX2, 17, tyX2, rfl, ti_X2, tyX2_ok, nmX2, by decide, rfl, Or.inl gm_133, rfl, by decide +kernel⟩
theorem gm_136 : Cond.fieldLink RX2 39 RX2 (TX2 4).2.1 (TX2 4).2.2.1 ∈ GT := gt_mem 136 (by decide +kernel) (by decide +kernel)
theorem fl_X2_39 : FL RX2 39 2 4 := ⟨RX2, TX2, 17, tyX2, rfl, ti_X2, tyX2_ok, nmX2, by decide, rfl, Or.inl gm_136⟩
theorem fp_X2_39 : FP RX2 39 2 4 .int := ⟨RX2, TX2, 17, tyX2, rfl, ti_X2, tyX2_ok, nmX2, by decide, rfl, Or.inl gm_136, rfl, by decide +kernel⟩
theorem gm_138 : Cond.fieldLink RX2 42 RX2 (TX2 5).2.1 (TX2 5).2.2.1 ∈ GT := gt_mem 138 (by decide +kernel) (by decide +kernel)
theorem fl_X2_42 : FL RX2 42 2 5 := ⟨RX2, TX2, 17, tyX2, rfl, ti_X2, tyX2_ok, nmX2, by decide, rfl, Or.inl gm_138⟩
theorem fp_X2_42 : FP RX2 42 2 5 .int := ⟨RX2, TX2, 17, tyX2, rfl, ti_X2, tyX2_ok, nmX2, by decide, rfl, Or.inl gm_138, rfl, by decide +kernel⟩
theorem gm_141 : Cond.fieldLink RX2 45 RX2 (TX2 6).2.1 (TX2 6).2.2.1 ∈ GT := gt_mem 141 (by decide +kernel) (by decide +kernel)
theorem fl_X2_45 : FL RX2 45 2 6 := ⟨RX2, TX2, 17, tyX2, rfl, ti_X2, tyX2_ok, nmX2, by decide, rfl, Or.inl gm_141⟩
theorem fp_X2_45 : FP RX2 45 2 6 .boolean := ⟨RX2, TX2, 17, tyX2, rfl, ti_X2, tyX2_ok, nmX2, by decide, rfl, Or.inl gm_141, rfl, by decide +kernel⟩
theorem gm_143 : Cond.fieldLink RX2 49 RX2 (TX2 7).2.1 (TX2 7).2.2.1 ∈ GT := gt_mem 143 (by decide +kernel) (by decide +kernel)
theorem fl_X2_49 : FL RX2 49 2 7 := ⟨RX2, TX2, 17, tyX2, rfl, ti_X2, tyX2_ok, nmX2, by decide, rfl, Or.inl gm_143⟩
theorem fp_X2_49 : FP RX2 49 2 7 .int := ⟨RX2, TX2, 17, tyX2, rfl, ti_X2, tyX2_ok, nmX2, by decide, rfl, Or.inl gm_143, rfl, by decide +kernel⟩
theorem gm_145 : Cond.fieldLink RX2 52 RX2 (TX2 8).2.1 (TX2 8).2.2.1 ∈ GT := gt_mem 145 (by decide +kernel) (by decide +kernel)
theorem fl_X2_52 : FL RX2 52 2 8 := ⟨RX2, TX2, 17, tyX2, rfl, ti_X2, tyX2_ok, nmX2, by decide, rfl, Or.inl gm_145⟩
theorem fp_X2_52 : FP RX2 52 2 8 .boolean := ⟨RX2, TX2, 17, tyX2, rfl, ti_X2, tyX2_ok, nmX2, by decide, rfl, Or.inl gm_145, rfl, by decide +kernel⟩
theorem gm_147 : Cond.fieldLink RX2 55 RX2 (TX2 9).2.1 (TX2 9).2.2.1 ∈ GT := gt_mem 147 (by decide +kernel) (by decide +kernel)
theorem fl_X2_55 : FL RX2 55 2 9 := ⟨RX2, TX2, 17, tyX2, rfl, ti_X2, tyX2_ok, nmX2, by decide, rfl, Or.inl gm_147⟩
theorem fp_X2_55 : FP RX2 55 2 9 .int := ⟨RX2, TX2, 17, tyX2, rfl, ti_X2, tyX2_ok, nmX2, by decide, rfl, Or.inl gm_147, rfl, by decide +kernel⟩
theorem gm_149 : Cond.fieldLink RX2 58 RX2 (TX2 10).2.1 (TX2 10).2.2.1 ∈ GT := gt_mem 149 (by decide +kernel) (by decide +kernel)
theorem fl_X2_58 : FL RX2 58 2 10 := ⟨RX2, TX2, 17, tyX2, rfl, ti_X2, tyX2_ok, nmX2, by decide, rfl, Or.inl gm_149⟩
theorem fp_X2_58 : FP RX2 58 2 10 .int := ⟨RX2, TX2, 17, tyX2, rfl, ti_X2, tyX2_ok, nmX2, by decide, rfl, Or.inl gm_149, rfl, by decide +kernel⟩
theorem gm_155 : Cond.fieldLink RX2 61 RX2 (TX2 14).2.1 (TX2 14).2.2.1 ∈ GT := gt_mem 155 (by decide +kernel) (by decide +kernel)
theorem fl_X2_61 : FL RX2 61 2 14 := ⟨RX2, TX2, 17, tyX2, rfl, ti_X2, tyX2_ok, nmX2, by decide, rfl, Or.inl gm_155⟩
theorem fp_X2_61 : FP RX2 61 2 14 .int := ⟨RX2, TX2, 17, tyX2, rfl, ti_X2, tyX2_ok, nmX2, by decide, rfl, Or.inl gm_155, rfl, by decide +kernel⟩
theorem gm_157 : Cond.fieldLink RX2 64 RX2 (TX2 16).2.1 (TX2 16).2.2.1 ∈ GT := gt_mem 157 (by decide +kernel) (by decide +kernel)
theorem fl_X2_64 : FL RX2 64 2 16 := ⟨RX2, TX2, 17, tyX2, rfl, ti_X2, tyX2_ok, nmX2, by decide, rfl, Or.inl gm_157⟩
theorem fp_X2_64 : FP RX2 64 2 16 .int := ⟨RX2, TX2, 17, tyX2, rfl, ti_X2, tyX2_ok, nmX2, by decide, rfl, Or.inl gm_157, rfl, by decide +kernel⟩
theorem fl_X2_9 : FL RX2 9 2 11 := ⟨RX2, TX2, 17, tyX2, rfl, ti_X2, tyX2_ok, nmX2, by decide, rfl, Or.inl gm_151⟩
theorem gm_722 : Cond.methodLink RX2 67 arraycopyName ∈ GT := gt_mem 722 (by decide +kernel) (by decide +kernel)
theorem gm_489 : Cond.native arraycopyName ∈ GT := gt_mem 489 (by decide +kernel) (by decide +kernel)
theorem gm_488 : Cond.static arraycopyName ∈ GT := gt_mem 488 (by decide +kernel) (by decide +kernel)
theorem gm_100 : Cond.initialized "java/lang/System" ∈ GT := gt_mem 100 (by decide +kernel) (by decide +kernel)
theorem fl_X2_15 : FL RX2 15 2 12 := ⟨RX2, TX2, 17, tyX2, rfl, ti_X2, tyX2_ok, nmX2, by decide, rfl, Or.inl gm_152⟩
theorem fl_X2_19 : FL RX2 19 2 13 := ⟨RX2, TX2, 17, tyX2, rfl, ti_X2, tyX2_ok, nmX2, by decide, rfl, Or.inl gm_153⟩
theorem fl_X2_22 : FL RX2 22 2 15 := ⟨RX2, TX2, 17, tyX2, rfl, ti_X2, tyX2_ok, nmX2, by decide, rfl, Or.inl gm_156⟩
theorem gm_205 : Cond.fieldLink RX0 15 RX0 (TX0 1).2.1 (TX0 1).2.2.1 ∈ GT := gt_mem 205 (by decide +kernel) (by decide +kernel)
theorem fl_X0_15 : FL RX0 15 0 1 := ⟨RX0, TX0, 3, tyX0, rfl, ti_X0, tyX0_ok, nmX0, by decide, rfl, Or.inl gm_205⟩
theorem fl_X0_11 : FL RX0 11 0 0 := ⟨RX0, TX0, 3, tyX0, rfl, ti_X0, tyX0_ok, nmX0, by decide, rfl, Or.inl gm_204⟩
theorem gm_119 : Cond.instantiable RX2 17 ∈ GT := gt_mem 119 (by decide +kernel) (by decide +kernel)
theorem gm_90 : Cond.initialized RX2 ∈ GT := gt_mem 90 (by decide +kernel) (by decide +kernel)
theorem nw_X0_9 : NW RX0 9 2 17 ([0, 0, 0, 1, 0, 0, 0, 0, 0, 0, 0, 6, 8, 10, 0, 12, 0], 0, 0) := ⟨RX2, TX2, tyX2, rfl, ti_X2, tyX2_ok, gm_202, gm_119, gm_90, fun j hj a => by
  match j, hj with
  | 0, _ => rfl
  | 1, _ => rfl
  | 2, _ => rfl
  | 3, _ => rfl
  | 4, _ => rfl
  | 5, _ => rfl
  | 6, _ => rfl
  | 7, _ => rfl
  | 8, _ => rfl
  | 9, _ => rfl
  | 10, _ => rfl
  | 11, _ => rfl
  | 12, _ => rfl
  | 13, _ => rfl
  | 14, _ => rfl
  | 15, _ => rfl
  | 16, _ => rfl
  | q + 17, hq => exact absurd hq (by omega)⟩
theorem gm_717 : Cond.methodLinkNest RX0 19 yX2_init "WrapRuns" ∈ NT := nt_mem 717 (by decide +kernel) rfl
theorem gm_121 : Cond.instanceMethod yX2_init ∈ GT := gt_mem 121 (by decide +kernel) (by decide +kernel)
theorem gm_122 : Cond.code yX2_init cX2_init 1 none ∈ GT := gt_mem 122 (by decide +kernel) (by decide +kernel)
theorem li_X0_19 : LKI RX0 19 yX2_init cX2_init 1 := ⟨Or.inr ⟨_, gm_717⟩, rfl, gm_121, gm_90, gm_122, by decide +kernel⟩
abbrev zl_5 (n : Nat) : List Nat := [2 + 5 * n, 3 + 5 * n, 4 + 5 * n, 5 + 5 * n, 6 + 5 * n]
theorem zk_5 : ∀ n : Nat, n < 10 → zq (zl_5 n) (2 + 5 * n) = some 0 ∧ zk shM shHM (zl_5 n) = true ∧ zno shHM (zl_5 n) 1 n = true := by decide +kernel
theorem gm_718 : Cond.methodLink RX0 20 yX2_copyFrom ∈ GT := gt_mem 718 (by decide +kernel) (by decide +kernel)
theorem gm_721 : Cond.code yX2_copyFrom cX2_copyFrom 2 none ∈ GT := gt_mem 721 (by decide +kernel) (by decide +kernel)
theorem gm_719 : Cond.instanceMethod yX2_copyFrom ∈ GT := gt_mem 719 (by decide +kernel) (by decide +kernel)
theorem gm_720 : Cond.selects RX2 yX2_copyFrom yX2_copyFrom ∈ GT := gt_mem 720 (by decide +kernel) (by decide +kernel)
theorem lk_X0_20 : LKV RX0 20 RX2 yX2_copyFrom cX2_copyFrom 2 none 1 := ⟨Or.inl gm_718, gm_719, gm_720, gm_90, gm_721, by decide +kernel⟩
abbrev zl_6 (n : Nat) : List Nat := [2 + 5 * n, 3 + 5 * n, 4 + 5 * n, 5 + 5 * n, 6 + 5 * n, 52, 53, 54, 55, 56]
theorem zk_6 : ∀ n : Nat, n < 10 → zk shMM shHM (zl_6 n) = true ∧ zsg shHM (zl_6 n) (1, n) = true ∧ (shHM[2 + 5 * n]?.map fun q => (q.1, q.2.2.2)) = some (12, some (1, n)) := by decide +kernel
theorem fp_X0_15 : FP RX0 15 0 1 .int := ⟨RX0, TX0, 3, tyX0, rfl, ti_X0, tyX0_ok, nmX0, by decide, rfl, Or.inl gm_205, rfl, by decide +kernel⟩
theorem gm_206 : Cond.fieldLink RX0 24 RX0 (TX0 2).2.1 (TX0 2).2.2.1 ∈ GT := gt_mem 206 (by decide +kernel) (by decide +kernel)
theorem fl_X0_24 : FL RX0 24 0 2 := ⟨RX0, TX0, 3, tyX0, rfl, ti_X0, tyX0_ok, nmX0, by decide, rfl, Or.inl gm_206⟩
theorem gm_723 : Cond.methodLink RX0 27 Lib.Math.min.name ∈ GT := gt_mem 723 (by decide +kernel) (by decide +kernel)
theorem gm_631 : Cond.static Lib.Math.min.name ∈ GT := gt_mem 631 (by decide +kernel) (by decide +kernel)
theorem gm_103 : Cond.initialized "java/lang/Math" ∈ GT := gt_mem 103 (by decide +kernel) (by decide +kernel)
theorem gm_632 : Cond.code Lib.Math.min.name Lib.Math.min.code 2 (some .int) ∈ GT := gt_mem 632 (by decide +kernel) (by decide +kernel)
theorem fp_X0_24 : FP RX0 24 0 2 .int := ⟨RX0, TX0, 3, tyX0, rfl, ti_X0, tyX0_ok, nmX0, by decide, rfl, Or.inl gm_206, rfl, by decide +kernel⟩
abbrev zl_7 (n : Nat) : List Nat := [52, 53, 54, 55, 56, 2 + 5 * n, 3 + 5 * n, 4 + 5 * n, 5 + 5 * n, 6 + 5 * n]
theorem zk_7 : ∀ n : Nat, n < 10 → zk shMM shHM (zl_7 n) = true ∧ zsg shHM (zl_7 n) (1, n) = true ∧ (shHM[2 + 5 * n]?.map fun q => (q.1, q.2.2.2)) = some (12, some (1, n)) := by decide +kernel
theorem gm_253 : Cond.methodLink RX1 3 Lib.objectInit ∈ GT := gt_mem 253 (by decide +kernel) (by decide +kernel)
theorem ti_X1 : ∀ w ∈ u_ws RX1 TX1 14, w ∈ GT := gt_ws [276, 278, 280, 282, 284, 286, 288, 290, 292, 294, 296, 298, 300, 302] (by decide +kernel) (by decide +kernel)
theorem gm_254 : Cond.fieldLink RX1 11 RX1 (TX1 0).2.1 (TX1 0).2.2.1 ∈ GT := gt_mem 254 (by decide +kernel) (by decide +kernel)
theorem ff_X1_11 : FF RX1 11 1 0 := ⟨RX1, TX1, 14, tyX1, tyX1 0, rfl, ti_X1, tyX1_ok, nmX1, by decide, rfl, rfl, gm_254, rfl, tyX1_ok 0 (by decide), fun _ => ⟨rfl, rfl⟩⟩
theorem gm_255 : Cond.fieldLink RX1 15 RX1 (TX1 1).2.1 (TX1 1).2.2.1 ∈ GT := gt_mem 255 (by decide +kernel) (by decide +kernel)
theorem ff_X1_15 : FF RX1 15 1 1 := ⟨RX1, TX1, 14, tyX1, tyX1 1, rfl, ti_X1, tyX1_ok, nmX1, by decide, rfl, rfl, gm_255, rfl, tyX1_ok 1 (by decide), fun _ => ⟨rfl, rfl⟩⟩
theorem gm_256 : Cond.fieldLink RX1 19 RX1 (TX1 2).2.1 (TX1 2).2.2.1 ∈ GT := gt_mem 256 (by decide +kernel) (by decide +kernel)
theorem ff_X1_19 : FF RX1 19 1 2 := ⟨RX1, TX1, 14, tyX1, tyX1 2, rfl, ti_X1, tyX1_ok, nmX1, by decide, rfl, rfl, gm_256, rfl, tyX1_ok 2 (by decide), fun _ => ⟨rfl, rfl⟩⟩
theorem gm_257 : Cond.fieldLink RX1 22 RX1 (TX1 3).2.1 (TX1 3).2.2.1 ∈ GT := gt_mem 257 (by decide +kernel) (by decide +kernel)
theorem ff_X1_22 : FF RX1 22 1 3 := ⟨RX1, TX1, 14, tyX1, tyX1 3, rfl, ti_X1, tyX1_ok, nmX1, by decide, rfl, rfl, gm_257, rfl, tyX1_ok 3 (by decide), fun _ => ⟨rfl, rfl⟩⟩
theorem gm_259 : Cond.fieldLink RX1 25 RX1 (TX1 5).2.1 (TX1 5).2.2.1 ∈ GT := gt_mem 259 (by decide +kernel) (by decide +kernel)
theorem ff_X1_25 : FF RX1 25 1 5 := ⟨RX1, TX1, 14, tyX1, tyX1 5, rfl, ti_X1, tyX1_ok, nmX1, by decide, rfl, rfl, gm_259, rfl, tyX1_ok 5 (by decide), fun _ => ⟨rfl, rfl⟩⟩
theorem gm_260 : Cond.fieldLink RX1 28 RX1 (TX1 6).2.1 (TX1 6).2.2.1 ∈ GT := gt_mem 260 (by decide +kernel) (by decide +kernel)
theorem ff_X1_28 : FF RX1 28 1 6 := ⟨RX1, TX1, 14, tyX1, tyX1 6, rfl, ti_X1, tyX1_ok, nmX1, by decide, rfl, rfl, gm_260, rfl, tyX1_ok 6 (by decide), fun _ => ⟨rfl, rfl⟩⟩
theorem zk_8 : zcs shLc shL [(0, 0), (0, 1), (0, 2), (0, 3), (0, 5), (0, 6)] = true := by decide +kernel
theorem gm_603 : Jvm.Cond.constantLong "java/lang/Long" 314 (6148914691236517205 : Int64) ∈ GT := gt_mem 603 (by decide +kernel) (by decide +kernel)
theorem gm_604 : Jvm.Cond.constantLong "java/lang/Long" 316 (3689348814741910323 : Int64) ∈ GT := gt_mem 604 (by decide +kernel) (by decide +kernel)
theorem gm_605 : Jvm.Cond.constantLong "java/lang/Long" 318 (1085102592571150095 : Int64) ∈ GT := gt_mem 605 (by decide +kernel) (by decide +kernel)
theorem gm_258 : Cond.fieldLink RX1 35 RX1 (TX1 4).2.1 (TX1 4).2.2.1 ∈ GT := gt_mem 258 (by decide +kernel) (by decide +kernel)
theorem fl_X1_35 : FL RX1 35 1 4 := ⟨RX1, TX1, 14, tyX1, rfl, ti_X1, tyX1_ok, nmX1, by decide, rfl, Or.inl gm_258⟩
theorem fl_X1_11 : FL RX1 11 1 0 := ⟨RX1, TX1, 14, tyX1, rfl, ti_X1, tyX1_ok, nmX1, by decide, rfl, Or.inl gm_254⟩
theorem fl_X1_15 : FL RX1 15 1 1 := ⟨RX1, TX1, 14, tyX1, rfl, ti_X1, tyX1_ok, nmX1, by decide, rfl, Or.inl gm_255⟩
theorem fp_X1_35 : FP RX1 35 1 4 .int := ⟨RX1, TX1, 14, tyX1, rfl, ti_X1, tyX1_ok, nmX1, by decide, rfl, Or.inl gm_258, rfl, by decide +kernel⟩
theorem gm_600 : Cond.methodLink RX1 97 yJ_Long_bitCount ∈ GT := gt_mem 600 (by decide +kernel) (by decide +kernel)
theorem gm_602 : Cond.code yJ_Long_bitCount cJ_Long_bitCount 2 (some .int) ∈ GT := gt_mem 602 (by decide +kernel) (by decide +kernel)
theorem gm_102 : Cond.initialized "java/lang/Long" ∈ GT := gt_mem 102 (by decide +kernel) (by decide +kernel)
theorem gm_601 : Cond.static yJ_Long_bitCount ∈ GT := gt_mem 601 (by decide +kernel) (by decide +kernel)
theorem lk_X1_97 : LKS RX1 97 yJ_Long_bitCount cJ_Long_bitCount 2 (some .int) 1 := ⟨Or.inl gm_600, gm_601, gm_102, gm_602, by decide +kernel⟩
theorem gm_606 : Cond.methodLink RX1 102 yX1_addMeld ∈ GT := gt_mem 606 (by decide +kernel) (by decide +kernel)
theorem gm_609 : Cond.code yX1_addMeld cX1_addMeld 4 none ∈ GT := gt_mem 609 (by decide +kernel) (by decide +kernel)
theorem gm_93 : Cond.initialized RX1 ∈ GT := gt_mem 93 (by decide +kernel) (by decide +kernel)
theorem gm_608 : Cond.instanceMethod yX1_addMeld ∈ GT := gt_mem 608 (by decide +kernel) (by decide +kernel)
theorem gm_17 : Cond.selects RX1 yX1_addMeld yX1_addMeld ∈ GT := gt_mem 17 (by decide +kernel) (by decide +kernel)
theorem lk_X1_102 : LKV RX1 102 RX1 yX1_addMeld cX1_addMeld 4 none 2 := ⟨Or.inl gm_606, gm_608, gm_17, gm_93, gm_609, by decide +kernel⟩
theorem gm_610 : Jvm.Cond.constantLong RX1 91 (8191 : Int64) ∈ GT := gt_mem 610 (by decide +kernel) (by decide +kernel)
theorem gm_611 : Jvm.Cond.constantLong RX1 64 (-1 : Int64) ∈ GT := gt_mem 611 (by decide +kernel) (by decide +kernel)
theorem zk_9 : zk shN shL [] = true := by decide +kernel
theorem zs_9 : zs shL [] = true := by decide +kernel
abbrev zl_9 : List Nat := []
theorem gm_595 : Jvm.Cond.constantLong RX1 86 (549822930945 : Int64) ∈ GT := gt_mem 595 (by decide +kernel) (by decide +kernel)
theorem gm_596 : Cond.methodLink RX1 88 yX1_collectSets ∈ GT := gt_mem 596 (by decide +kernel) (by decide +kernel)
theorem gm_599 : Cond.code yX1_collectSets cX1_collectSets 5 none ∈ GT := gt_mem 599 (by decide +kernel) (by decide +kernel)
theorem gm_598 : Cond.instanceMethod yX1_collectSets ∈ GT := gt_mem 598 (by decide +kernel) (by decide +kernel)
theorem gm_16 : Cond.selects RX1 yX1_collectSets yX1_collectSets ∈ GT := gt_mem 16 (by decide +kernel) (by decide +kernel)
theorem lk_X1_88 : LKV RX1 88 RX1 yX1_collectSets cX1_collectSets 5 none 1 := ⟨Or.inl gm_596, gm_598, gm_16, gm_93, gm_599, by decide +kernel⟩
theorem gm_612 : Cond.methodLink RX1 93 yX1_collectRuns ∈ GT := gt_mem 612 (by decide +kernel) (by decide +kernel)
theorem gm_615 : Cond.code yX1_collectRuns cX1_collectRuns 11 none ∈ GT := gt_mem 615 (by decide +kernel) (by decide +kernel)
theorem gm_614 : Cond.instanceMethod yX1_collectRuns ∈ GT := gt_mem 614 (by decide +kernel) (by decide +kernel)
theorem gm_18 : Cond.selects RX1 yX1_collectRuns yX1_collectRuns ∈ GT := gt_mem 18 (by decide +kernel) (by decide +kernel)
theorem lk_X1_93 : LKV RX1 93 RX1 yX1_collectRuns cX1_collectRuns 11 none 2 := ⟨Or.inl gm_612, gm_614, gm_18, gm_93, gm_615, by decide +kernel⟩
theorem gm_622 : Cond.methodLink RX6 226 yJ_Long_bitCount ∈ GT := gt_mem 622 (by decide +kernel) (by decide +kernel)
theorem lk_X6_226 : LKS RX6 226 yJ_Long_bitCount cJ_Long_bitCount 2 (some .int) 1 := ⟨Or.inl gm_622, gm_601, gm_102, gm_602, by decide +kernel⟩
theorem gm_619 : Cond.methodLinkNest RX1 105 yX6_lowestOf "WrapRuns" ∈ NT := nt_mem 619 (by decide +kernel) rfl
theorem gm_621 : Cond.code yX6_lowestOf cX6_lowestOf 2 (some .int) ∈ GT := gt_mem 621 (by decide +kernel) (by decide +kernel)
theorem gm_89 : Cond.initialized RX6 ∈ GT := gt_mem 89 (by decide +kernel) (by decide +kernel)
theorem gm_620 : Cond.static yX6_lowestOf ∈ GT := gt_mem 620 (by decide +kernel) (by decide +kernel)
theorem lk_X1_105 : LKS RX1 105 yX6_lowestOf cX6_lowestOf 2 (some .int) 1 := ⟨Or.inr ⟨_, gm_619⟩, gm_620, gm_89, gm_621, by decide +kernel⟩
theorem gm_630 : Cond.methodLink RX6 323 Lib.Math.min.name ∈ GT := gt_mem 630 (by decide +kernel) (by decide +kernel)
theorem gm_626 : Cond.methodLink RX6 250 yX6_lowestOf ∈ GT := gt_mem 626 (by decide +kernel) (by decide +kernel)
theorem lk_X6_250 : LKS RX6 250 yX6_lowestOf cX6_lowestOf 2 (some .int) 1 := ⟨Or.inl gm_626, gm_620, gm_89, gm_621, by decide +kernel⟩
theorem gm_627 : Cond.methodLink RX6 278 yX6_pointsFor ∈ GT := gt_mem 627 (by decide +kernel) (by decide +kernel)
theorem gm_629 : Cond.code yX6_pointsFor cX6_pointsFor 1 (some .int) ∈ GT := gt_mem 629 (by decide +kernel) (by decide +kernel)
theorem gm_628 : Cond.static yX6_pointsFor ∈ GT := gt_mem 628 (by decide +kernel) (by decide +kernel)
theorem lk_X6_278 : LKS RX6 278 yX6_pointsFor cX6_pointsFor 1 (some .int) 1 := ⟨Or.inl gm_627, gm_628, gm_89, gm_629, by decide +kernel⟩
theorem fl_X1_19 : FL RX1 19 1 2 := ⟨RX1, TX1, 14, tyX1, rfl, ti_X1, tyX1_ok, nmX1, by decide, rfl, Or.inl gm_256⟩
theorem gm_637 : Cond.methodLink RX1 108 yX1_isAhead ∈ GT := gt_mem 637 (by decide +kernel) (by decide +kernel)
theorem gm_640 : Cond.code yX1_isAhead cX1_isAhead 5 (some .boolean) ∈ GT := gt_mem 640 (by decide +kernel) (by decide +kernel)
theorem gm_639 : Cond.instanceMethod yX1_isAhead ∈ GT := gt_mem 639 (by decide +kernel) (by decide +kernel)
theorem gm_20 : Cond.selects RX1 yX1_isAhead yX1_isAhead ∈ GT := gt_mem 20 (by decide +kernel) (by decide +kernel)
theorem lk_X1_108 : LKV RX1 108 RX1 yX1_isAhead cX1_isAhead 5 (some .boolean) 2 := ⟨Or.inl gm_637, gm_639, gm_20, gm_93, gm_640, by decide +kernel⟩
theorem fl_X1_22 : FL RX1 22 1 3 := ⟨RX1, TX1, 14, tyX1, rfl, ti_X1, tyX1_ok, nmX1, by decide, rfl, Or.inl gm_257⟩
theorem fl_X1_25 : FL RX1 25 1 5 := ⟨RX1, TX1, 14, tyX1, rfl, ti_X1, tyX1_ok, nmX1, by decide, rfl, Or.inl gm_259⟩
theorem gm_641 : Cond.methodLink RX1 56 yX1_search ∈ GT := gt_mem 641 (by decide +kernel) (by decide +kernel)
theorem gm_644 : Cond.code yX1_search cX1_search 7 none ∈ GT := gt_mem 644 (by decide +kernel) (by decide +kernel)
theorem gm_643 : Cond.instanceMethod yX1_search ∈ GT := gt_mem 643 (by decide +kernel) (by decide +kernel)
theorem gm_21 : Cond.selects RX1 yX1_search yX1_search ∈ GT := gt_mem 21 (by decide +kernel) (by decide +kernel)
theorem lk_X1_56 : LKV RX1 56 RX1 yX1_search cX1_search 7 none 4 := ⟨Or.inl gm_641, gm_643, gm_21, gm_93, gm_644, by decide +kernel⟩
theorem gm_265 : Cond.fieldLink RX1 53 RX1 (TX1 8).2.1 (TX1 8).2.2.1 ∈ GT := gt_mem 265 (by decide +kernel) (by decide +kernel)
theorem fl_X1_53 : FL RX1 53 1 8 := ⟨RX1, TX1, 14, tyX1, rfl, ti_X1, tyX1_ok, nmX1, by decide, rfl, Or.inl gm_265⟩
theorem fp_X1_53 : FP RX1 53 1 8 .int := ⟨RX1, TX1, 14, tyX1, rfl, ti_X1, tyX1_ok, nmX1, by decide, rfl, Or.inl gm_265, rfl, by decide +kernel⟩
theorem gm_262 : Cond.fieldLink RX1 50 RX1 (TX1 7).2.1 (TX1 7).2.2.1 ∈ GT := gt_mem 262 (by decide +kernel) (by decide +kernel)
theorem fp_X1_50 : FP RX1 50 1 7 .int := ⟨RX1, TX1, 14, tyX1, rfl, ti_X1, tyX1_ok, nmX1, by decide, rfl, Or.inl gm_262, rfl, by decide +kernel⟩
theorem fl_X1_28 : FL RX1 28 1 6 := ⟨RX1, TX1, 14, tyX1, rfl, ti_X1, tyX1_ok, nmX1, by decide, rfl, Or.inl gm_260⟩
theorem gm_591 : Cond.methodLink RX1 31 yX1_collect ∈ GT := gt_mem 591 (by decide +kernel) (by decide +kernel)
theorem gm_594 : Cond.code yX1_collect cX1_collect 4 none ∈ GT := gt_mem 594 (by decide +kernel) (by decide +kernel)
theorem gm_593 : Cond.instanceMethod yX1_collect ∈ GT := gt_mem 593 (by decide +kernel) (by decide +kernel)
theorem gm_15 : Cond.selects RX1 yX1_collect yX1_collect ∈ GT := gt_mem 15 (by decide +kernel) (by decide +kernel)
theorem lk_X1_31 : LKV RX1 31 RX1 yX1_collect cX1_collect 4 none 1 := ⟨Or.inl gm_591, gm_593, gm_15, gm_93, gm_594, by decide +kernel⟩
theorem gm_616 : Cond.methodLink RX1 39 yX1_keyOf ∈ GT := gt_mem 616 (by decide +kernel) (by decide +kernel)
theorem gm_618 : Cond.code yX1_keyOf cX1_keyOf 3 (some .int) ∈ GT := gt_mem 618 (by decide +kernel) (by decide +kernel)
theorem gm_617 : Cond.static yX1_keyOf ∈ GT := gt_mem 617 (by decide +kernel) (by decide +kernel)
theorem lk_X1_39 : LKS RX1 39 yX1_keyOf cX1_keyOf 3 (some .int) 2 := ⟨Or.inl gm_616, gm_617, gm_93, gm_618, by decide +kernel⟩
theorem gm_623 : Cond.methodLinkNest RX1 43 yX6_pointsOf "WrapRuns" ∈ NT := nt_mem 623 (by decide +kernel) rfl
theorem gm_625 : Cond.code yX6_pointsOf cX6_pointsOf 6 (some .int) ∈ GT := gt_mem 625 (by decide +kernel) (by decide +kernel)
theorem gm_624 : Cond.static yX6_pointsOf ∈ GT := gt_mem 624 (by decide +kernel) (by decide +kernel)
theorem lk_X1_43 : LKS RX1 43 yX6_pointsOf cX6_pointsOf 6 (some .int) 1 := ⟨Or.inr ⟨_, gm_623⟩, gm_624, gm_89, gm_625, by decide +kernel⟩
theorem gm_633 : Cond.methodLink RX1 47 yX1_sort ∈ GT := gt_mem 633 (by decide +kernel) (by decide +kernel)
theorem gm_636 : Cond.code yX1_sort cX1_sort 7 none ∈ GT := gt_mem 636 (by decide +kernel) (by decide +kernel)
theorem gm_635 : Cond.instanceMethod yX1_sort ∈ GT := gt_mem 635 (by decide +kernel) (by decide +kernel)
theorem gm_19 : Cond.selects RX1 yX1_sort yX1_sort ∈ GT := gt_mem 19 (by decide +kernel) (by decide +kernel)
theorem lk_X1_47 : LKV RX1 47 RX1 yX1_sort cX1_sort 7 none 0 := ⟨Or.inl gm_633, gm_635, gm_19, gm_93, gm_636, by decide +kernel⟩
theorem gm_268 : Cond.fieldLink RX1 60 RX1 (TX1 9).2.1 (TX1 9).2.2.1 ∈ GT := gt_mem 268 (by decide +kernel) (by decide +kernel)
theorem fp_X1_60 : FP RX1 60 1 9 .long := ⟨RX1, TX1, 14, tyX1, rfl, ti_X1, tyX1_ok, nmX1, by decide, rfl, Or.inl gm_268, rfl, by decide +kernel⟩
theorem fl_X1_50 : FL RX1 50 1 7 := ⟨RX1, TX1, 14, tyX1, rfl, ti_X1, tyX1_ok, nmX1, by decide, rfl, Or.inl gm_262⟩
theorem fl_X1_60 : FL RX1 60 1 9 := ⟨RX1, TX1, 14, tyX1, rfl, ti_X1, tyX1_ok, nmX1, by decide, rfl, Or.inl gm_268⟩
theorem gm_271 : Cond.fieldLink RX1 66 RX1 (TX1 10).2.1 (TX1 10).2.2.1 ∈ GT := gt_mem 271 (by decide +kernel) (by decide +kernel)
theorem fp_X1_66 : FP RX1 66 1 10 .int := ⟨RX1, TX1, 14, tyX1, rfl, ti_X1, tyX1_ok, nmX1, by decide, rfl, Or.inl gm_271, rfl, by decide +kernel⟩
theorem gm_785 : Cond.methodLinkNest RX1 115 yX6_pointsFor "WrapRuns" ∈ NT := nt_mem 785 (by decide +kernel) rfl
theorem lk_X1_115 : LKS RX1 115 yX6_pointsFor cX6_pointsFor 1 (some .int) 1 := ⟨Or.inr ⟨_, gm_785⟩, gm_628, gm_89, gm_629, by decide +kernel⟩
theorem gm_786 : Cond.methodLink RX1 119 Lib.Math.max.name ∈ GT := gt_mem 786 (by decide +kernel) (by decide +kernel)
theorem gm_787 : Cond.static Lib.Math.max.name ∈ GT := gt_mem 787 (by decide +kernel) (by decide +kernel)
theorem gm_788 : Cond.code Lib.Math.max.name Lib.Math.max.code 2 (some .int) ∈ GT := gt_mem 788 (by decide +kernel) (by decide +kernel)
theorem gm_778 : Cond.methodLink RX1 82 yX1_searchDrop ∈ GT := gt_mem 778 (by decide +kernel) (by decide +kernel)
theorem gm_781 : Cond.code yX1_searchDrop cX1_searchDrop 7 none ∈ GT := gt_mem 781 (by decide +kernel) (by decide +kernel)
theorem gm_780 : Cond.instanceMethod yX1_searchDrop ∈ GT := gt_mem 780 (by decide +kernel) (by decide +kernel)
theorem gm_23 : Cond.selects RX1 yX1_searchDrop yX1_searchDrop ∈ GT := gt_mem 23 (by decide +kernel) (by decide +kernel)
theorem lk_X1_82 : LKV RX1 82 RX1 yX1_searchDrop cX1_searchDrop 7 none 3 := ⟨Or.inl gm_778, gm_780, gm_23, gm_93, gm_781, by decide +kernel⟩
theorem gm_274 : Cond.fieldLink RX1 76 RX1 (TX1 12).2.1 (TX1 12).2.2.1 ∈ GT := gt_mem 274 (by decide +kernel) (by decide +kernel)
theorem fl_X1_76 : FL RX1 76 1 12 := ⟨RX1, TX1, 14, tyX1, rfl, ti_X1, tyX1_ok, nmX1, by decide, rfl, Or.inl gm_274⟩
theorem gm_782 : Cond.methodLink RX1 112 yX1_mostPointsOf ∈ GT := gt_mem 782 (by decide +kernel) (by decide +kernel)
theorem gm_784 : Cond.code yX1_mostPointsOf cX1_mostPointsOf 6 (some .int) ∈ GT := gt_mem 784 (by decide +kernel) (by decide +kernel)
theorem gm_783 : Cond.static yX1_mostPointsOf ∈ GT := gt_mem 783 (by decide +kernel) (by decide +kernel)
theorem lk_X1_112 : LKS RX1 112 yX1_mostPointsOf cX1_mostPointsOf 6 (some .int) 1 := ⟨Or.inl gm_782, gm_783, gm_93, gm_784, by decide +kernel⟩
theorem gm_273 : Cond.fieldLink RX1 69 RX1 (TX1 11).2.1 (TX1 11).2.2.1 ∈ GT := gt_mem 273 (by decide +kernel) (by decide +kernel)
theorem fl_X1_69 : FL RX1 69 1 11 := ⟨RX1, TX1, 14, tyX1, rfl, ti_X1, tyX1_ok, nmX1, by decide, rfl, Or.inl gm_273⟩
theorem gm_275 : Cond.fieldLink RX1 79 RX1 (TX1 13).2.1 (TX1 13).2.2.1 ∈ GT := gt_mem 275 (by decide +kernel) (by decide +kernel)
theorem fl_X1_79 : FL RX1 79 1 13 := ⟨RX1, TX1, 14, tyX1, rfl, ti_X1, tyX1_ok, nmX1, by decide, rfl, Or.inl gm_275⟩
theorem fp_X1_79 : FP RX1 79 1 13 .int := ⟨RX1, TX1, 14, tyX1, rfl, ti_X1, tyX1_ok, nmX1, by decide, rfl, Or.inl gm_275, rfl, by decide +kernel⟩
theorem fp_X1_69 : FP RX1 69 1 11 .long := ⟨RX1, TX1, 14, tyX1, rfl, ti_X1, tyX1_ok, nmX1, by decide, rfl, Or.inl gm_273, rfl, by decide +kernel⟩
theorem gm_668 : Cond.methodLinkNest RX1 72 yX6_bitOf "WrapRuns" ∈ NT := nt_mem 668 (by decide +kernel) rfl
theorem gm_465 : Cond.code yX6_bitOf cX6_bitOf 1 (some .long) ∈ GT := gt_mem 465 (by decide +kernel) (by decide +kernel)
theorem gm_464 : Cond.static yX6_bitOf ∈ GT := gt_mem 464 (by decide +kernel) (by decide +kernel)
theorem lk_X1_72 : LKS RX1 72 yX6_bitOf cX6_bitOf 1 (some .long) 1 := ⟨Or.inr ⟨_, gm_668⟩, gm_464, gm_89, gm_465, by decide +kernel⟩
theorem fp_X1_76 : FP RX1 76 1 12 .long := ⟨RX1, TX1, 14, tyX1, rfl, ti_X1, tyX1_ok, nmX1, by decide, rfl, Or.inl gm_274, rfl, by decide +kernel⟩
theorem gm_463 : Cond.methodLink RX6 281 yX6_bitOf ∈ GT := gt_mem 463 (by decide +kernel) (by decide +kernel)
theorem lk_X6_281 : LKS RX6 281 yX6_bitOf cX6_bitOf 1 (some .long) 1 := ⟨Or.inl gm_463, gm_464, gm_89, gm_465, by decide +kernel⟩
theorem gm_803 : Cond.methodLink RX1 125 yX1_foundAt ∈ GT := gt_mem 803 (by decide +kernel) (by decide +kernel)
theorem gm_653 : Cond.code yX1_foundAt cX1_foundAt 2 (some .long) ∈ GT := gt_mem 653 (by decide +kernel) (by decide +kernel)
theorem gm_651 : Cond.instanceMethod yX1_foundAt ∈ GT := gt_mem 651 (by decide +kernel) (by decide +kernel)
theorem gm_652 : Cond.selects RX1 yX1_foundAt yX1_foundAt ∈ GT := gt_mem 652 (by decide +kernel) (by decide +kernel)
theorem lk_X1_125 : LKV RX1 125 RX1 yX1_foundAt cX1_foundAt 2 (some .long) 1 := ⟨Or.inl gm_803, gm_651, gm_652, gm_93, gm_653, by decide +kernel⟩
theorem gm_1017 : Cond.methodLinkNest RX1 128 yX6_has "WrapRuns" ∈ NT := nt_mem 1017 (by decide +kernel) rfl
theorem gm_462 : Cond.code yX6_has cX6_has 3 (some .boolean) ∈ GT := gt_mem 462 (by decide +kernel) (by decide +kernel)
theorem gm_461 : Cond.static yX6_has ∈ GT := gt_mem 461 (by decide +kernel) (by decide +kernel)
theorem lk_X1_128 : LKS RX1 128 yX6_has cX6_has 3 (some .boolean) 2 := ⟨Or.inr ⟨_, gm_1017⟩, gm_461, gm_89, gm_462, by decide +kernel⟩
theorem gm_660 : Jvm.Cond.constantLong RX6 330 (8191 : Int64) ∈ GT := gt_mem 660 (by decide +kernel) (by decide +kernel)
theorem gm_659 : Jvm.Cond.constantLong RX6 328 (-1 : Int64) ∈ GT := gt_mem 659 (by decide +kernel) (by decide +kernel)
theorem gm_658 : Jvm.Cond.constantLong RX6 326 (549822930945 : Int64) ∈ GT := gt_mem 658 (by decide +kernel) (by decide +kernel)
theorem gm_661 : Cond.methodLink RX6 332 yX6_beginningsOf ∈ GT := gt_mem 661 (by decide +kernel) (by decide +kernel)
theorem gm_663 : Cond.code yX6_beginningsOf cX6_beginningsOf 4 (some .long) ∈ GT := gt_mem 663 (by decide +kernel) (by decide +kernel)
theorem gm_662 : Cond.static yX6_beginningsOf ∈ GT := gt_mem 662 (by decide +kernel) (by decide +kernel)
theorem lk_X6_332 : LKS RX6 332 yX6_beginningsOf cX6_beginningsOf 4 (some .long) 1 := ⟨Or.inl gm_661, gm_662, gm_89, gm_663, by decide +kernel⟩
theorem gm_809 : Cond.methodLinkNest RX1 132 yX6_kindOf "WrapRuns" ∈ NT := nt_mem 809 (by decide +kernel) rfl
theorem gm_657 : Cond.code yX6_kindOf cX6_kindOf 4 (some .int) ∈ GT := gt_mem 657 (by decide +kernel) (by decide +kernel)
theorem gm_656 : Cond.static yX6_kindOf ∈ GT := gt_mem 656 (by decide +kernel) (by decide +kernel)
theorem lk_X1_132 : LKS RX1 132 yX6_kindOf cX6_kindOf 4 (some .int) 1 := ⟨Or.inr ⟨_, gm_809⟩, gm_656, gm_89, gm_657, by decide +kernel⟩
theorem gm_1014 : Cond.methodLinkNest RX1 135 yX6_firstOf "WrapRuns" ∈ NT := nt_mem 1014 (by decide +kernel) rfl
theorem gm_1016 : Cond.code yX6_firstOf cX6_firstOf 5 (some .int) ∈ GT := gt_mem 1016 (by decide +kernel) (by decide +kernel)
theorem gm_1015 : Cond.static yX6_firstOf ∈ GT := gt_mem 1015 (by decide +kernel) (by decide +kernel)
theorem lk_X1_135 : LKS RX1 135 yX6_firstOf cX6_firstOf 5 (some .int) 1 := ⟨Or.inr ⟨_, gm_1014⟩, gm_1015, gm_89, gm_1016, by decide +kernel⟩
theorem gm_475 : Jvm.Cond.constantLong RX2 73 (1103515245 : Int64) ∈ GT := gt_mem 475 (by decide +kernel) (by decide +kernel)
theorem gm_476 : Jvm.Cond.constantLong RX2 75 (12345 : Int64) ∈ GT := gt_mem 476 (by decide +kernel) (by decide +kernel)
theorem gm_477 : Jvm.Cond.constantLong RX2 77 (2147483648 : Int64) ∈ GT := gt_mem 477 (by decide +kernel) (by decide +kernel)
theorem gm_478 : Jvm.Cond.constantLong RX2 79 (65536 : Int64) ∈ GT := gt_mem 478 (by decide +kernel) (by decide +kernel)
theorem gm_494 : Cond.methodLink RX2 81 yX2_deckAt ∈ GT := gt_mem 494 (by decide +kernel) (by decide +kernel)
theorem gm_486 : Cond.code yX2_deckAt cX2_deckAt 2 (some .int) ∈ GT := gt_mem 486 (by decide +kernel) (by decide +kernel)
theorem gm_485 : Cond.instanceMethod yX2_deckAt ∈ GT := gt_mem 485 (by decide +kernel) (by decide +kernel)
theorem gm_11 : Cond.selects RX2 yX2_deckAt yX2_deckAt ∈ GT := gt_mem 11 (by decide +kernel) (by decide +kernel)
theorem lk_X2_81 : LKV RX2 81 RX2 yX2_deckAt cX2_deckAt 2 (some .int) 1 := ⟨Or.inl gm_494, gm_485, gm_11, gm_90, gm_486, by decide +kernel⟩
theorem gm_495 : Cond.methodLinkNest RX2 85 yX6_bitOf "WrapRuns" ∈ NT := nt_mem 495 (by decide +kernel) rfl
theorem lk_X2_85 : LKS RX2 85 yX6_bitOf cX6_bitOf 1 (some .long) 1 := ⟨Or.inr ⟨_, gm_495⟩, gm_464, gm_89, gm_465, by decide +kernel⟩
theorem zk_10 : zk shN shM [] = true := by decide +kernel
theorem zs_10 : zs shM [] = true := by decide +kernel
abbrev zl_10 : List Nat := []
theorem gm_699 : Cond.methodLink RX2 89 yX2_shuffle ∈ GT := gt_mem 699 (by decide +kernel) (by decide +kernel)
theorem gm_474 : Cond.code yX2_shuffle cX2_shuffle 4 none ∈ GT := gt_mem 474 (by decide +kernel) (by decide +kernel)
theorem gm_472 : Cond.instanceMethod yX2_shuffle ∈ GT := gt_mem 472 (by decide +kernel) (by decide +kernel)
theorem gm_473 : Cond.selects RX2 yX2_shuffle yX2_shuffle ∈ GT := gt_mem 473 (by decide +kernel) (by decide +kernel)
theorem lk_X2_89 : LKV RX2 89 RX2 yX2_shuffle cX2_shuffle 4 none 0 := ⟨Or.inl gm_699, gm_472, gm_473, gm_90, gm_474, by decide +kernel⟩
theorem gm_700 : Cond.methodLink RX2 92 yX2_dealOut ∈ GT := gt_mem 700 (by decide +kernel) (by decide +kernel)
theorem gm_493 : Cond.code yX2_dealOut cX2_dealOut 3 none ∈ GT := gt_mem 493 (by decide +kernel) (by decide +kernel)
theorem gm_491 : Cond.instanceMethod yX2_dealOut ∈ GT := gt_mem 491 (by decide +kernel) (by decide +kernel)
theorem gm_492 : Cond.selects RX2 yX2_dealOut yX2_dealOut ∈ GT := gt_mem 492 (by decide +kernel) (by decide +kernel)
theorem lk_X2_92 : LKV RX2 92 RX2 yX2_dealOut cX2_dealOut 3 none 0 := ⟨Or.inl gm_700, gm_491, gm_492, gm_90, gm_493, by decide +kernel⟩
theorem gm_709 : Cond.methodLink RX2 95 yX2_topOfPile ∈ GT := gt_mem 709 (by decide +kernel) (by decide +kernel)
theorem gm_712 : Cond.code yX2_topOfPile cX2_topOfPile 1 (some .int) ∈ GT := gt_mem 712 (by decide +kernel) (by decide +kernel)
theorem gm_710 : Cond.instanceMethod yX2_topOfPile ∈ GT := gt_mem 710 (by decide +kernel) (by decide +kernel)
theorem gm_711 : Cond.selects RX2 yX2_topOfPile yX2_topOfPile ∈ GT := gt_mem 711 (by decide +kernel) (by decide +kernel)
theorem lk_X2_95 : LKV RX2 95 RX2 yX2_topOfPile cX2_topOfPile 1 (some .int) 0 := ⟨Or.inl gm_709, gm_710, gm_711, gm_90, gm_712, by decide +kernel⟩
theorem gm_569 : Jvm.Cond.constantLong RX2 99 (-1 : Int64) ∈ GT := gt_mem 569 (by decide +kernel) (by decide +kernel)
theorem gm_565 : Cond.methodLink RX2 101 yX2_putDown ∈ GT := gt_mem 565 (by decide +kernel) (by decide +kernel)
theorem gm_568 : Cond.code yX2_putDown cX2_putDown 2 none ∈ GT := gt_mem 568 (by decide +kernel) (by decide +kernel)
theorem gm_567 : Cond.instanceMethod yX2_putDown ∈ GT := gt_mem 567 (by decide +kernel) (by decide +kernel)
theorem gm_14 : Cond.selects RX2 yX2_putDown yX2_putDown ∈ GT := gt_mem 14 (by decide +kernel) (by decide +kernel)
theorem lk_X2_101 : LKV RX2 101 RX2 yX2_putDown cX2_putDown 2 none 1 := ⟨Or.inl gm_565, gm_567, gm_14, gm_90, gm_568, by decide +kernel⟩
theorem gm_570 : Cond.methodLink RX2 105 yX2_stockCount ∈ GT := gt_mem 570 (by decide +kernel) (by decide +kernel)
theorem gm_573 : Cond.code yX2_stockCount cX2_stockCount 1 (some .int) ∈ GT := gt_mem 573 (by decide +kernel) (by decide +kernel)
theorem gm_571 : Cond.instanceMethod yX2_stockCount ∈ GT := gt_mem 571 (by decide +kernel) (by decide +kernel)
theorem gm_572 : Cond.selects RX2 yX2_stockCount yX2_stockCount ∈ GT := gt_mem 572 (by decide +kernel) (by decide +kernel)
theorem lk_X2_105 : LKV RX2 105 RX2 yX2_stockCount cX2_stockCount 1 (some .int) 0 := ⟨Or.inl gm_570, gm_571, gm_572, gm_90, gm_573, by decide +kernel⟩
theorem gm_684 : Cond.methodLink RX2 108 Lib.Math.abs.name ∈ GT := gt_mem 684 (by decide +kernel) (by decide +kernel)
theorem gm_685 : Cond.static Lib.Math.abs.name ∈ GT := gt_mem 685 (by decide +kernel) (by decide +kernel)
theorem gm_686 : Cond.code Lib.Math.abs.name Lib.Math.abs.code 1 (some .int) ∈ GT := gt_mem 686 (by decide +kernel) (by decide +kernel)
theorem gm_675 : Cond.methodLink RX2 113 yX2_reasonAgainstDrop ∈ GT := gt_mem 675 (by decide +kernel) (by decide +kernel)
theorem gm_560 : Cond.code yX2_reasonAgainstDrop cX2_reasonAgainstDrop 2 (some .int) ∈ GT := gt_mem 560 (by decide +kernel) (by decide +kernel)
theorem gm_558 : Cond.instanceMethod yX2_reasonAgainstDrop ∈ GT := gt_mem 558 (by decide +kernel) (by decide +kernel)
theorem gm_559 : Cond.selects RX2 yX2_reasonAgainstDrop yX2_reasonAgainstDrop ∈ GT := gt_mem 559 (by decide +kernel) (by decide +kernel)
theorem lk_X2_113 : LKV RX2 113 RX2 yX2_reasonAgainstDrop cX2_reasonAgainstDrop 2 (some .int) 1 := ⟨Or.inl gm_675, gm_558, gm_559, gm_90, gm_560, by decide +kernel⟩
theorem gm_691 : Cond.methodLink RX2 116 yX2_isMatchOver ∈ GT := gt_mem 691 (by decide +kernel) (by decide +kernel)
theorem gm_694 : Cond.code yX2_isMatchOver cX2_isMatchOver 1 (some .boolean) ∈ GT := gt_mem 694 (by decide +kernel) (by decide +kernel)
theorem gm_692 : Cond.instanceMethod yX2_isMatchOver ∈ GT := gt_mem 692 (by decide +kernel) (by decide +kernel)
theorem gm_693 : Cond.selects RX2 yX2_isMatchOver yX2_isMatchOver ∈ GT := gt_mem 693 (by decide +kernel) (by decide +kernel)
theorem lk_X2_116 : LKV RX2 116 RX2 yX2_isMatchOver cX2_isMatchOver 1 (some .boolean) 0 := ⟨Or.inl gm_691, gm_692, gm_693, gm_90, gm_694, by decide +kernel⟩
theorem gm_578 : Cond.methodLink RX2 120 yX2_handOf ∈ GT := gt_mem 578 (by decide +kernel) (by decide +kernel)
theorem gm_553 : Cond.code yX2_handOf cX2_handOf 2 (some .long) ∈ GT := gt_mem 553 (by decide +kernel) (by decide +kernel)
theorem gm_551 : Cond.instanceMethod yX2_handOf ∈ GT := gt_mem 551 (by decide +kernel) (by decide +kernel)
theorem gm_552 : Cond.selects RX2 yX2_handOf yX2_handOf ∈ GT := gt_mem 552 (by decide +kernel) (by decide +kernel)
theorem lk_X2_120 : LKV RX2 120 RX2 yX2_handOf cX2_handOf 2 (some .long) 1 := ⟨Or.inl gm_578, gm_551, gm_552, gm_90, gm_553, by decide +kernel⟩
theorem gm_1036 : Cond.methodLinkNest RX2 123 yX6_has "WrapRuns" ∈ NT := nt_mem 1036 (by decide +kernel) rfl
theorem lk_X2_123 : LKS RX2 123 yX6_has cX6_has 3 (some .boolean) 2 := ⟨Or.inr ⟨_, gm_1036⟩, gm_461, gm_89, gm_462, by decide +kernel⟩
theorem gm_220 : Cond.methodLink RX3 3 Lib.objectInit ∈ GT := gt_mem 220 (by decide +kernel) (by decide +kernel)
theorem ti_X3 : ∀ w ∈ u_ws RX3 TX3 8, w ∈ GT := gt_ws [230, 232, 234, 236, 238, 240, 242, 244] (by decide +kernel) (by decide +kernel)
theorem gm_221 : Cond.fieldLink RX3 9 RX3 (TX3 0).2.1 (TX3 0).2.2.1 ∈ GT := gt_mem 221 (by decide +kernel) (by decide +kernel)
theorem ff_X3_9 : FF RX3 9 3 0 := ⟨RX3, TX3, 8, tyX3, tyX3 0, rfl, ti_X3, tyX3_ok, nmX3, by decide, rfl, rfl, gm_221, rfl, tyX3_ok 0 (by decide), fun _ => ⟨rfl, rfl⟩⟩
theorem gm_247 : Cond.arrayClass (newarray.typeOf ArrayType.byte) ∈ GT := gt_mem 247 (by decide +kernel) (by decide +kernel)
theorem gm_228 : Cond.fieldLink RX3 15 RX3 (TX3 6).2.1 (TX3 6).2.2.1 ∈ GT := gt_mem 228 (by decide +kernel) (by decide +kernel)
theorem ff_X3_15 : FF RX3 15 3 6 := ⟨RX3, TX3, 8, tyX3, tyX3 6, rfl, ti_X3, tyX3_ok, nmX3, by decide, rfl, rfl, gm_228, rfl, tyX3_ok 6 (by decide), fun _ => ⟨rfl, rfl⟩⟩
theorem zk_11 : zcs shRc shR [(0, 0), (0, 6)] = true := by decide +kernel
theorem gm_222 : Cond.fieldLink RX3 19 RX3 (TX3 1).2.1 (TX3 1).2.2.1 ∈ GT := gt_mem 222 (by decide +kernel) (by decide +kernel)
theorem fl_X3_19 : FL RX3 19 3 1 := ⟨RX3, TX3, 8, tyX3, rfl, ti_X3, tyX3_ok, nmX3, by decide, rfl, Or.inl gm_222⟩
theorem fl_X3_9 : FL RX3 9 3 0 := ⟨RX3, TX3, 8, tyX3, rfl, ti_X3, tyX3_ok, nmX3, by decide, rfl, Or.inl gm_221⟩
theorem fp_X3_19 : FP RX3 19 3 1 .int := ⟨RX3, TX3, 8, tyX3, rfl, ti_X3, tyX3_ok, nmX3, by decide, rfl, Or.inl gm_222, rfl, by decide +kernel⟩
theorem gm_400 : Cond.methodLink RX3 23 yX3_writeByte ∈ GT := gt_mem 400 (by decide +kernel) (by decide +kernel)
theorem gm_403 : Cond.code yX3_writeByte cX3_writeByte 2 none ∈ GT := gt_mem 403 (by decide +kernel) (by decide +kernel)
theorem gm_92 : Cond.initialized RX3 ∈ GT := gt_mem 92 (by decide +kernel) (by decide +kernel)
theorem gm_401 : Cond.instanceMethod yX3_writeByte ∈ GT := gt_mem 401 (by decide +kernel) (by decide +kernel)
theorem gm_402 : Cond.selects RX3 yX3_writeByte yX3_writeByte ∈ GT := gt_mem 402 (by decide +kernel) (by decide +kernel)
theorem lk_X3_23 : LKV RX3 23 RX3 yX3_writeByte cX3_writeByte 2 none 1 := ⟨Or.inl gm_400, gm_401, gm_402, gm_92, gm_403, by decide +kernel⟩
theorem gm_352 : Cond.methodLink RX3 27 yJ_String_length ∈ GT := gt_mem 352 (by decide +kernel) (by decide +kernel)
theorem gm_355 : Cond.code yJ_String_length cJ_String_length 1 (some .int) ∈ GT := gt_mem 355 (by decide +kernel) (by decide +kernel)
theorem gm_353 : Cond.instanceMethod yJ_String_length ∈ GT := gt_mem 353 (by decide +kernel) (by decide +kernel)
theorem gm_354 : Cond.selects "java/lang/String" yJ_String_length yJ_String_length ∈ GT := gt_mem 354 (by decide +kernel) (by decide +kernel)
theorem lk_X3_27 : LKV RX3 27 "java/lang/String" yJ_String_length cJ_String_length 1 (some .int) 0 := ⟨Or.inl gm_352, gm_353, gm_354, gm_96, gm_355, by decide +kernel⟩
theorem gm_362 : Cond.methodLink RX3 32 yJ_String_charAt ∈ GT := gt_mem 362 (by decide +kernel) (by decide +kernel)
theorem gm_365 : Cond.code yJ_String_charAt cJ_String_charAt 2 (some .char) ∈ GT := gt_mem 365 (by decide +kernel) (by decide +kernel)
theorem gm_363 : Cond.instanceMethod yJ_String_charAt ∈ GT := gt_mem 363 (by decide +kernel) (by decide +kernel)
theorem gm_364 : Cond.selects "java/lang/String" yJ_String_charAt yJ_String_charAt ∈ GT := gt_mem 364 (by decide +kernel) (by decide +kernel)
theorem lk_X3_32 : LKV RX3 32 "java/lang/String" yJ_String_charAt cJ_String_charAt 2 (some .char) 1 := ⟨Or.inl gm_362, gm_363, gm_364, gm_96, gm_365, by decide +kernel⟩
theorem zk_12 : zk shN shR [] = true := by decide +kernel
theorem zs_12 : zs shR [] = true := by decide +kernel
abbrev zl_12 : List Nat := []
theorem gm_224 : Cond.fieldLink RX3 36 RX3 (TX3 2).2.1 (TX3 2).2.2.1 ∈ GT := gt_mem 224 (by decide +kernel) (by decide +kernel)
theorem fl_X3_36 : FL RX3 36 3 2 := ⟨RX3, TX3, 8, tyX3, rfl, ti_X3, tyX3_ok, nmX3, by decide, rfl, Or.inl gm_224⟩
theorem gm_416 : Cond.methodLink RX3 202 yX3_signAt ∈ GT := gt_mem 416 (by decide +kernel) (by decide +kernel)
theorem gm_419 : Cond.code yX3_signAt cX3_signAt 2 (some .int) ∈ GT := gt_mem 419 (by decide +kernel) (by decide +kernel)
theorem gm_418 : Cond.instanceMethod yX3_signAt ∈ GT := gt_mem 418 (by decide +kernel) (by decide +kernel)
theorem gm_2 : Cond.selects RX3 yX3_signAt yX3_signAt ∈ GT := gt_mem 2 (by decide +kernel) (by decide +kernel)
theorem lk_X3_202 : LKV RX3 202 RX3 yX3_signAt cX3_signAt 2 (some .int) 1 := ⟨Or.inl gm_416, gm_418, gm_2, gm_92, gm_419, by decide +kernel⟩
theorem gm_426 : Cond.methodLink RX3 212 yX3_isFigure ∈ GT := gt_mem 426 (by decide +kernel) (by decide +kernel)
theorem gm_428 : Cond.code yX3_isFigure cX3_isFigure 1 (some .boolean) ∈ GT := gt_mem 428 (by decide +kernel) (by decide +kernel)
theorem gm_427 : Cond.static yX3_isFigure ∈ GT := gt_mem 427 (by decide +kernel) (by decide +kernel)
theorem lk_X3_212 : LKS RX3 212 yX3_isFigure cX3_isFigure 1 (some .boolean) 1 := ⟨Or.inl gm_426, gm_427, gm_92, gm_428, by decide +kernel⟩
theorem gm_225 : Cond.fieldLink RX3 199 RX3 (TX3 3).2.1 (TX3 3).2.2.1 ∈ GT := gt_mem 225 (by decide +kernel) (by decide +kernel)
theorem fl_X3_199 : FL RX3 199 3 3 := ⟨RX3, TX3, 8, tyX3, rfl, ti_X3, tyX3_ok, nmX3, by decide, rfl, Or.inl gm_225⟩
theorem fp_X3_36 : FP RX3 36 3 2 .int := ⟨RX3, TX3, 8, tyX3, rfl, ti_X3, tyX3_ok, nmX3, by decide, rfl, Or.inl gm_224, rfl, by decide +kernel⟩
theorem gm_227 : Cond.fieldLink RX3 82 RX3 (TX3 5).2.1 (TX3 5).2.2.1 ∈ GT := gt_mem 227 (by decide +kernel) (by decide +kernel)
theorem fl_X3_82 : FL RX3 82 3 5 := ⟨RX3, TX3, 8, tyX3, rfl, ti_X3, tyX3_ok, nmX3, by decide, rfl, Or.inl gm_227⟩
theorem fp_X3_82 : FP RX3 82 3 5 .int := ⟨RX3, TX3, 8, tyX3, rfl, ti_X3, tyX3_ok, nmX3, by decide, rfl, Or.inl gm_227, rfl, by decide +kernel⟩
theorem gm_226 : Cond.fieldLink RX3 61 RX3 (TX3 4).2.1 (TX3 4).2.2.1 ∈ GT := gt_mem 226 (by decide +kernel) (by decide +kernel)
theorem fp_X3_61 : FP RX3 61 3 4 .int := ⟨RX3, TX3, 8, tyX3, rfl, ti_X3, tyX3_ok, nmX3, by decide, rfl, Or.inl gm_226, rfl, by decide +kernel⟩
theorem gm_420 : Cond.methodLink RX3 205 yX3_isBlank ∈ GT := gt_mem 420 (by decide +kernel) (by decide +kernel)
theorem gm_422 : Cond.code yX3_isBlank cX3_isBlank 1 (some .boolean) ∈ GT := gt_mem 422 (by decide +kernel) (by decide +kernel)
theorem gm_421 : Cond.static yX3_isBlank ∈ GT := gt_mem 421 (by decide +kernel) (by decide +kernel)
theorem lk_X3_205 : LKS RX3 205 yX3_isBlank cX3_isBlank 1 (some .boolean) 1 := ⟨Or.inl gm_420, gm_421, gm_92, gm_422, by decide +kernel⟩
theorem fp_X3_199 : FP RX3 199 3 3 .int := ⟨RX3, TX3, 8, tyX3, rfl, ti_X3, tyX3_ok, nmX3, by decide, rfl, Or.inl gm_225, rfl, by decide +kernel⟩
theorem gm_423 : Cond.methodLink RX3 209 yX3_isLetter ∈ GT := gt_mem 423 (by decide +kernel) (by decide +kernel)
theorem gm_425 : Cond.code yX3_isLetter cX3_isLetter 1 (some .boolean) ∈ GT := gt_mem 425 (by decide +kernel) (by decide +kernel)
theorem gm_424 : Cond.static yX3_isLetter ∈ GT := gt_mem 424 (by decide +kernel) (by decide +kernel)
theorem lk_X3_209 : LKS RX3 209 yX3_isLetter cX3_isLetter 1 (some .boolean) 1 := ⟨Or.inl gm_423, gm_424, gm_92, gm_425, by decide +kernel⟩
theorem gm_429 : Cond.methodLink RX3 215 yX3_readFigures ∈ GT := gt_mem 429 (by decide +kernel) (by decide +kernel)
theorem gm_432 : Cond.code yX3_readFigures cX3_readFigures 1 none ∈ GT := gt_mem 432 (by decide +kernel) (by decide +kernel)
theorem gm_431 : Cond.instanceMethod yX3_readFigures ∈ GT := gt_mem 431 (by decide +kernel) (by decide +kernel)
theorem gm_3 : Cond.selects RX3 yX3_readFigures yX3_readFigures ∈ GT := gt_mem 3 (by decide +kernel) (by decide +kernel)
theorem lk_X3_215 : LKV RX3 215 RX3 yX3_readFigures cX3_readFigures 1 none 0 := ⟨Or.inl gm_429, gm_431, gm_3, gm_92, gm_432, by decide +kernel⟩
theorem fl_X3_61 : FL RX3 61 3 4 := ⟨RX3, TX3, 8, tyX3, rfl, ti_X3, tyX3_ok, nmX3, by decide, rfl, Or.inl gm_226⟩
theorem gm_438 : Cond.methodLink RX3 73 yX3_errorAs ∈ GT := gt_mem 438 (by decide +kernel) (by decide +kernel)
theorem gm_441 : Cond.code yX3_errorAs cX3_errorAs 2 (some .int) ∈ GT := gt_mem 441 (by decide +kernel) (by decide +kernel)
theorem gm_440 : Cond.instanceMethod yX3_errorAs ∈ GT := gt_mem 440 (by decide +kernel) (by decide +kernel)
theorem gm_5 : Cond.selects RX3 yX3_errorAs yX3_errorAs ∈ GT := gt_mem 5 (by decide +kernel) (by decide +kernel)
theorem lk_X3_73 : LKV RX3 73 RX3 yX3_errorAs cX3_errorAs 2 (some .int) 1 := ⟨Or.inl gm_438, gm_440, gm_5, gm_92, gm_441, by decide +kernel⟩
theorem gm_412 : Cond.methodLink RX3 64 yX3_advance ∈ GT := gt_mem 412 (by decide +kernel) (by decide +kernel)
theorem gm_415 : Cond.code yX3_advance cX3_advance 2 none ∈ GT := gt_mem 415 (by decide +kernel) (by decide +kernel)
theorem gm_414 : Cond.instanceMethod yX3_advance ∈ GT := gt_mem 414 (by decide +kernel) (by decide +kernel)
theorem gm_1 : Cond.selects RX3 yX3_advance yX3_advance ∈ GT := gt_mem 1 (by decide +kernel) (by decide +kernel)
theorem lk_X3_64 : LKV RX3 64 RX3 yX3_advance cX3_advance 2 none 0 := ⟨Or.inl gm_412, gm_414, gm_1, gm_92, gm_415, by decide +kernel⟩
theorem gm_447 : Cond.methodLink RX3 114 yX3_rangeError ∈ GT := gt_mem 447 (by decide +kernel) (by decide +kernel)
theorem gm_450 : Cond.code yX3_rangeError cX3_rangeError 3 (some .int) ∈ GT := gt_mem 450 (by decide +kernel) (by decide +kernel)
theorem gm_449 : Cond.instanceMethod yX3_rangeError ∈ GT := gt_mem 449 (by decide +kernel) (by decide +kernel)
theorem gm_7 : Cond.selects RX3 yX3_rangeError yX3_rangeError ∈ GT := gt_mem 7 (by decide +kernel) (by decide +kernel)
theorem lk_X3_114 : LKV RX3 114 RX3 yX3_rangeError cX3_rangeError 3 (some .int) 2 := ⟨Or.inl gm_447, gm_449, gm_7, gm_92, gm_450, by decide +kernel⟩
theorem zk_13 : zk shR shRM [0, 1, 2] = true := by decide +kernel
theorem zs_13 : zs shRM [0, 1, 2] = true := by decide +kernel
abbrev zl_13 : List Nat := [0, 1, 2]
theorem gm_434 : Cond.methodLink RX3 69 yX3_isWord ∈ GT := gt_mem 434 (by decide +kernel) (by decide +kernel)
theorem gm_437 : Cond.code yX3_isWord cX3_isWord 3 (some .boolean) ∈ GT := gt_mem 437 (by decide +kernel) (by decide +kernel)
theorem gm_436 : Cond.instanceMethod yX3_isWord ∈ GT := gt_mem 436 (by decide +kernel) (by decide +kernel)
theorem gm_4 : Cond.selects RX3 yX3_isWord yX3_isWord ∈ GT := gt_mem 4 (by decide +kernel) (by decide +kernel)
theorem lk_X3_69 : LKV RX3 69 RX3 yX3_isWord cX3_isWord 3 (some .boolean) 1 := ⟨Or.inl gm_434, gm_436, gm_4, gm_92, gm_437, by decide +kernel⟩
theorem gm_442 : Jvm.Cond.constant RX3 77 (999999999 : Int32) ∈ GT := gt_mem 442 (by decide +kernel) (by decide +kernel)
theorem gm_443 : Cond.methodLink RX3 78 yX3_readNumber ∈ GT := gt_mem 443 (by decide +kernel) (by decide +kernel)
theorem gm_446 : Cond.code yX3_readNumber cX3_readNumber 3 (some .int) ∈ GT := gt_mem 446 (by decide +kernel) (by decide +kernel)
theorem gm_445 : Cond.instanceMethod yX3_readNumber ∈ GT := gt_mem 445 (by decide +kernel) (by decide +kernel)
theorem gm_6 : Cond.selects RX3 yX3_readNumber yX3_readNumber ∈ GT := gt_mem 6 (by decide +kernel) (by decide +kernel)
theorem lk_X3_78 : LKV RX3 78 RX3 yX3_readNumber cX3_readNumber 3 (some .int) 2 := ⟨Or.inl gm_443, gm_445, gm_6, gm_92, gm_446, by decide +kernel⟩
theorem gm_134 : Cond.fieldLinkNest RX3 85 RX2 (TX2 3).2.1 (TX2 3).2.2.1 "WrapRuns" ∈ NT := nt_mem 134 (by decide +kernel) rfl
theorem fp_X3_85 : FP RX3 85 2 3 .long := ⟨RX2, TX2, 17, tyX2, rfl, ti_X2, tyX2_ok, nmX2, by decide, rfl, Or.inr ⟨_, gm_134⟩, rfl, by decide +kernel⟩
theorem gm_451 : Cond.methodLink RX3 98 yX3_readSemicolon ∈ GT := gt_mem 451 (by decide +kernel) (by decide +kernel)
theorem gm_454 : Cond.code yX3_readSemicolon cX3_readSemicolon 1 (some .int) ∈ GT := gt_mem 454 (by decide +kernel) (by decide +kernel)
theorem gm_453 : Cond.instanceMethod yX3_readSemicolon ∈ GT := gt_mem 453 (by decide +kernel) (by decide +kernel)
theorem gm_8 : Cond.selects RX3 yX3_readSemicolon yX3_readSemicolon ∈ GT := gt_mem 8 (by decide +kernel) (by decide +kernel)
theorem lk_X3_98 : LKV RX3 98 RX3 yX3_readSemicolon cX3_readSemicolon 1 (some .int) 0 := ⟨Or.inl gm_451, gm_453, gm_8, gm_92, gm_454, by decide +kernel⟩
theorem gm_132 : Cond.fieldLinkNest RX3 95 RX2 (TX2 2).2.1 (TX2 2).2.2.1 "WrapRuns" ∈ NT := nt_mem 132 (by decide +kernel) rfl
theorem fp_X3_95 : FP RX3 95 2 2 .int := ⟨RX2, TX2, 17, tyX2, rfl, ti_X2, tyX2_ok, nmX2, by decide, rfl, Or.inr ⟨_, gm_132⟩, rfl, by decide +kernel⟩
theorem gm_129 : Cond.fieldLinkNest RX3 92 RX2 (TX2 1).2.1 (TX2 1).2.2.1 "WrapRuns" ∈ NT := nt_mem 129 (by decide +kernel) rfl
theorem fp_X3_92 : FP RX3 92 2 1 .int := ⟨RX2, TX2, 17, tyX2, rfl, ti_X2, tyX2_ok, nmX2, by decide, rfl, Or.inr ⟨_, gm_129⟩, rfl, by decide +kernel⟩
theorem gm_126 : Cond.fieldLinkNest RX3 89 RX2 (TX2 0).2.1 (TX2 0).2.2.1 "WrapRuns" ∈ NT := nt_mem 126 (by decide +kernel) rfl
theorem fp_X3_89 : FP RX3 89 2 0 .int := ⟨RX2, TX2, 17, tyX2, rfl, ti_X2, tyX2_ok, nmX2, by decide, rfl, Or.inr ⟨_, gm_126⟩, rfl, by decide +kernel⟩
theorem gm_229 : Cond.fieldLink RX3 101 RX3 (TX3 7).2.1 (TX3 7).2.2.1 ∈ GT := gt_mem 229 (by decide +kernel) (by decide +kernel)
theorem fp_X3_101 : FP RX3 101 3 7 .int := ⟨RX3, TX3, 8, tyX3, rfl, ti_X3, tyX3_ok, nmX3, by decide, rfl, Or.inl gm_229, rfl, by decide +kernel⟩
theorem gm_460 : Cond.methodLinkNest RX3 106 yX6_has "WrapRuns" ∈ NT := nt_mem 460 (by decide +kernel) rfl
theorem lk_X3_106 : LKS RX3 106 yX6_has cX6_has 3 (some .boolean) 2 := ⟨Or.inr ⟨_, gm_460⟩, gm_461, gm_89, gm_462, by decide +kernel⟩
theorem fl_X3_101 : FL RX3 101 3 7 := ⟨RX3, TX3, 8, tyX3, rfl, ti_X3, tyX3_ok, nmX3, by decide, rfl, Or.inl gm_229⟩
theorem gm_466 : Cond.methodLinkNest RX3 110 yX6_bitOf "WrapRuns" ∈ NT := nt_mem 466 (by decide +kernel) rfl
theorem lk_X3_110 : LKS RX3 110 yX6_bitOf cX6_bitOf 1 (some .long) 1 := ⟨Or.inr ⟨_, gm_466⟩, gm_464, gm_89, gm_465, by decide +kernel⟩
theorem fl_X3_15 : FL RX3 15 3 6 := ⟨RX3, TX3, 8, tyX3, rfl, ti_X3, tyX3_ok, nmX3, by decide, rfl, Or.inl gm_228⟩
theorem zk_14 : zk shN shRM [] = true := by decide +kernel
theorem zs_14 : zs shRM [] = true := by decide +kernel
abbrev zl_14 : List Nat := []
theorem gm_483 : Cond.methodLinkNest RX3 117 yX2_deckAt "WrapRuns" ∈ NT := nt_mem 483 (by decide +kernel) rfl
theorem lk_X3_117 : LKV RX3 117 RX2 yX2_deckAt cX2_deckAt 2 (some .int) 1 := ⟨Or.inr ⟨_, gm_483⟩, gm_485, gm_11, gm_90, gm_486, by decide +kernel⟩
theorem zk_15 : zk shM shRM [3, 4, 5, 6, 7] = true := by decide +kernel
theorem zs_15 : zs shRM [3, 4, 5, 6, 7] = true := by decide +kernel
abbrev zl_15 : List Nat := [3, 4, 5, 6, 7]
theorem gm_154 : Cond.fieldLinkNest RX3 120 RX2 (TX2 13).2.1 (TX2 13).2.2.1 "WrapRuns" ∈ NT := nt_mem 154 (by decide +kernel) rfl
theorem fl_X3_120 : FL RX3 120 2 13 := ⟨RX2, TX2, 17, tyX2, rfl, ti_X2, tyX2_ok, nmX2, by decide, rfl, Or.inr ⟨_, gm_154⟩⟩
theorem gm_487 : Cond.methodLink RX3 122 arraycopyName ∈ GT := gt_mem 487 (by decide +kernel) (by decide +kernel)
theorem gm_408 : Cond.methodLink RX3 39 yX3_readHead ∈ GT := gt_mem 408 (by decide +kernel) (by decide +kernel)
theorem gm_411 : Cond.code yX3_readHead cX3_readHead 3 (some .int) ∈ GT := gt_mem 411 (by decide +kernel) (by decide +kernel)
theorem gm_410 : Cond.instanceMethod yX3_readHead ∈ GT := gt_mem 410 (by decide +kernel) (by decide +kernel)
theorem gm_0 : Cond.selects RX3 yX3_readHead yX3_readHead ∈ GT := gt_mem 0 (by decide +kernel) (by decide +kernel)
theorem lk_X3_39 : LKV RX3 39 RX3 yX3_readHead cX3_readHead 3 (some .int) 1 := ⟨Or.inl gm_408, gm_410, gm_0, gm_92, gm_411, by decide +kernel⟩
theorem gm_467 : Cond.methodLink RX3 46 yX2_begin ∈ GT := gt_mem 467 (by decide +kernel) (by decide +kernel)
theorem gm_470 : Cond.code yX2_begin cX2_begin 1 none ∈ GT := gt_mem 470 (by decide +kernel) (by decide +kernel)
theorem gm_468 : Cond.instanceMethod yX2_begin ∈ GT := gt_mem 468 (by decide +kernel) (by decide +kernel)
theorem gm_469 : Cond.selects RX2 yX2_begin yX2_begin ∈ GT := gt_mem 469 (by decide +kernel) (by decide +kernel)
theorem lk_X3_46 : LKV RX3 46 RX2 yX2_begin cX2_begin 1 none 0 := ⟨Or.inl gm_467, gm_468, gm_469, gm_90, gm_470, by decide +kernel⟩
theorem gm_471 : Cond.methodLink RX3 51 yX2_shuffle ∈ GT := gt_mem 471 (by decide +kernel) (by decide +kernel)
theorem lk_X3_51 : LKV RX3 51 RX2 yX2_shuffle cX2_shuffle 4 none 0 := ⟨Or.inl gm_471, gm_472, gm_473, gm_90, gm_474, by decide +kernel⟩
theorem gm_479 : Cond.methodLink RX3 54 yX3_arrange ∈ GT := gt_mem 479 (by decide +kernel) (by decide +kernel)
theorem gm_482 : Cond.code yX3_arrange cX3_arrange 7 none ∈ GT := gt_mem 482 (by decide +kernel) (by decide +kernel)
theorem gm_481 : Cond.instanceMethod yX3_arrange ∈ GT := gt_mem 481 (by decide +kernel) (by decide +kernel)
theorem gm_10 : Cond.selects RX3 yX3_arrange yX3_arrange ∈ GT := gt_mem 10 (by decide +kernel) (by decide +kernel)
theorem lk_X3_54 : LKV RX3 54 RX3 yX3_arrange cX3_arrange 7 none 1 := ⟨Or.inl gm_479, gm_481, gm_10, gm_92, gm_482, by decide +kernel⟩
theorem gm_490 : Cond.methodLink RX3 58 yX2_dealOut ∈ GT := gt_mem 490 (by decide +kernel) (by decide +kernel)
theorem lk_X3_58 : LKV RX3 58 RX2 yX2_dealOut cX2_dealOut 3 none 0 := ⟨Or.inl gm_490, gm_491, gm_492, gm_90, gm_493, by decide +kernel⟩
theorem gm_455 : Cond.methodLink RX3 43 yX3_readDeck ∈ GT := gt_mem 455 (by decide +kernel) (by decide +kernel)
theorem gm_458 : Cond.code yX3_readDeck cX3_readDeck 5 (some .int) ∈ GT := gt_mem 458 (by decide +kernel) (by decide +kernel)
theorem gm_457 : Cond.instanceMethod yX3_readDeck ∈ GT := gt_mem 457 (by decide +kernel) (by decide +kernel)
theorem gm_9 : Cond.selects RX3 yX3_readDeck yX3_readDeck ∈ GT := gt_mem 9 (by decide +kernel) (by decide +kernel)
theorem lk_X3_43 : LKV RX3 43 RX3 yX3_readDeck cX3_readDeck 5 (some .int) 0 := ⟨Or.inl gm_455, gm_457, gm_9, gm_92, gm_458, by decide +kernel⟩
theorem gm_140 : Cond.fieldLinkNest RX3 148 RX2 (TX2 5).2.1 (TX2 5).2.2.1 "WrapRuns" ∈ NT := nt_mem 140 (by decide +kernel) rfl
theorem fl_X3_148 : FL RX3 148 2 5 := ⟨RX2, TX2, 17, tyX2, rfl, ti_X2, tyX2_ok, nmX2, by decide, rfl, Or.inr ⟨_, gm_140⟩⟩
theorem gm_550 : Cond.methodLink RX3 151 yX2_handOf ∈ GT := gt_mem 550 (by decide +kernel) (by decide +kernel)
theorem lk_X3_151 : LKV RX3 151 RX2 yX2_handOf cX2_handOf 2 (some .long) 1 := ⟨Or.inl gm_550, gm_551, gm_552, gm_90, gm_553, by decide +kernel⟩
theorem ti_X5 : ∀ w ∈ u_ws RX5 TX5 5, w ∈ GT := gt_ws [322, 324, 326, 328, 330] (by decide +kernel) (by decide +kernel)
theorem gm_313 : Cond.fieldLink RX5 12 RX5 (TX5 0).2.1 (TX5 0).2.2.1 ∈ GT := gt_mem 313 (by decide +kernel) (by decide +kernel)
theorem fl_X5_12 : FL RX5 12 5 0 := ⟨RX5, TX5, 5, tyX5, rfl, ti_X5, tyX5_ok, nmX5, by decide, rfl, Or.inl gm_313⟩
theorem gm_263 : Cond.fieldLinkNest RX5 55 RX1 (TX1 7).2.1 (TX1 7).2.2.1 "WrapRuns" ∈ NT := nt_mem 263 (by decide +kernel) rfl
theorem fl_X5_55 : FL RX5 55 1 7 := ⟨RX1, TX1, 14, tyX1, rfl, ti_X1, tyX1_ok, nmX1, by decide, rfl, Or.inr ⟨_, gm_263⟩⟩
theorem gm_649 : Cond.methodLinkNest RX5 58 yX6_has "WrapRuns" ∈ NT := nt_mem 649 (by decide +kernel) rfl
theorem lk_X5_58 : LKS RX5 58 yX6_has cX6_has 3 (some .boolean) 2 := ⟨Or.inr ⟨_, gm_649⟩, gm_461, gm_89, gm_462, by decide +kernel⟩
theorem gm_650 : Cond.methodLink RX5 62 yX1_foundAt ∈ GT := gt_mem 650 (by decide +kernel) (by decide +kernel)
theorem lk_X5_62 : LKV RX5 62 RX1 yX1_foundAt cX1_foundAt 2 (some .long) 1 := ⟨Or.inl gm_650, gm_651, gm_652, gm_93, gm_653, by decide +kernel⟩
theorem zk_16 : zk shL shD [1, 2, 3, 4, 5, 6, 7] = true := by decide +kernel
theorem zs_16 : zs shD [1, 2, 3, 4, 5, 6, 7] = true := by decide +kernel
abbrev zl_16 : List Nat := [1, 2, 3, 4, 5, 6, 7]
theorem gm_654 : Cond.methodLinkNest RX5 43 yX6_bitOf "WrapRuns" ∈ NT := nt_mem 654 (by decide +kernel) rfl
theorem lk_X5_43 : LKS RX5 43 yX6_bitOf cX6_bitOf 1 (some .long) 1 := ⟨Or.inr ⟨_, gm_654⟩, gm_464, gm_89, gm_465, by decide +kernel⟩
theorem gm_655 : Cond.methodLinkNest RX5 65 yX6_kindOf "WrapRuns" ∈ NT := nt_mem 655 (by decide +kernel) rfl
theorem lk_X5_65 : LKS RX5 65 yX6_kindOf cX6_kindOf 4 (some .int) 1 := ⟨Or.inr ⟨_, gm_655⟩, gm_656, gm_89, gm_657, by decide +kernel⟩
theorem zk_17 : zk shN shD [] = true := by decide +kernel
theorem zs_17 : zs shD [] = true := by decide +kernel
abbrev zl_17 : List Nat := []
theorem gm_664 : Cond.methodLink RX5 68 yX1_widen ∈ GT := gt_mem 664 (by decide +kernel) (by decide +kernel)
theorem gm_667 : Cond.code yX1_widen cX1_widen 3 none ∈ GT := gt_mem 667 (by decide +kernel) (by decide +kernel)
theorem gm_665 : Cond.instanceMethod yX1_widen ∈ GT := gt_mem 665 (by decide +kernel) (by decide +kernel)
theorem gm_666 : Cond.selects RX1 yX1_widen yX1_widen ∈ GT := gt_mem 666 (by decide +kernel) (by decide +kernel)
theorem lk_X5_68 : LKV RX5 68 RX1 yX1_widen cX1_widen 3 none 2 := ⟨Or.inl gm_664, gm_665, gm_666, gm_93, gm_667, by decide +kernel⟩
theorem gm_587 : Cond.methodLink RX5 21 yX1_lay ∈ GT := gt_mem 587 (by decide +kernel) (by decide +kernel)
theorem gm_590 : Cond.code yX1_lay cX1_lay 4 none ∈ GT := gt_mem 590 (by decide +kernel) (by decide +kernel)
theorem gm_588 : Cond.instanceMethod yX1_lay ∈ GT := gt_mem 588 (by decide +kernel) (by decide +kernel)
theorem gm_589 : Cond.selects RX1 yX1_lay yX1_lay ∈ GT := gt_mem 589 (by decide +kernel) (by decide +kernel)
theorem lk_X5_21 : LKV RX5 21 RX1 yX1_lay cX1_lay 4 none 1 := ⟨Or.inl gm_587, gm_588, gm_589, gm_93, gm_590, by decide +kernel⟩
theorem gm_314 : Cond.fieldLink RX5 18 RX5 (TX5 1).2.1 (TX5 1).2.2.1 ∈ GT := gt_mem 314 (by decide +kernel) (by decide +kernel)
theorem fl_X5_18 : FL RX5 18 5 1 := ⟨RX5, TX5, 5, tyX5, rfl, ti_X5, tyX5_ok, nmX5, by decide, rfl, Or.inl gm_314⟩
theorem zk_18 : zk shL shD [8, 9, 10, 11, 12, 13, 14] = true := by decide +kernel
theorem zs_18 : zs shD [8, 9, 10, 11, 12, 13, 14] = true := by decide +kernel
abbrev zl_18 : List Nat := [8, 9, 10, 11, 12, 13, 14]
theorem gm_270 : Cond.fieldLinkNest RX5 25 RX1 (TX1 10).2.1 (TX1 10).2.2.1 "WrapRuns" ∈ NT := nt_mem 270 (by decide +kernel) rfl
theorem fl_X5_25 : FL RX5 25 1 10 := ⟨RX1, TX1, 14, tyX1, rfl, ti_X1, tyX1_ok, nmX1, by decide, rfl, Or.inr ⟨_, gm_270⟩⟩
theorem gm_315 : Cond.fieldLink RX5 29 RX5 (TX5 2).2.1 (TX5 2).2.2.1 ∈ GT := gt_mem 315 (by decide +kernel) (by decide +kernel)
theorem fp_X5_29 : FP RX5 29 5 2 .int := ⟨RX5, TX5, 5, tyX5, rfl, ti_X5, tyX5_ok, nmX5, by decide, rfl, Or.inl gm_315, rfl, by decide +kernel⟩
theorem gm_320 : Cond.fieldLink RX5 32 RX5 (TX5 4).2.1 (TX5 4).2.2.1 ∈ GT := gt_mem 320 (by decide +kernel) (by decide +kernel)
theorem fp_X5_32 : FP RX5 32 5 4 .int := ⟨RX5, TX5, 5, tyX5, rfl, ti_X5, tyX5_ok, nmX5, by decide, rfl, Or.inl gm_320, rfl, by decide +kernel⟩
theorem gm_266 : Cond.fieldLinkNest RX5 35 RX1 (TX1 9).2.1 (TX1 9).2.2.1 "WrapRuns" ∈ NT := nt_mem 266 (by decide +kernel) rfl
theorem fl_X5_35 : FL RX5 35 1 9 := ⟨RX1, TX1, 14, tyX1, rfl, ti_X1, tyX1_ok, nmX1, by decide, rfl, Or.inr ⟨_, gm_266⟩⟩
theorem fl_X5_29 : FL RX5 29 5 2 := ⟨RX5, TX5, 5, tyX5, rfl, ti_X5, tyX5_ok, nmX5, by decide, rfl, Or.inl gm_315⟩
theorem gm_645 : Cond.methodLink RX5 39 yX5_addOne ∈ GT := gt_mem 645 (by decide +kernel) (by decide +kernel)
theorem gm_648 : Cond.code yX5_addOne cX5_addOne 5 (some .int) ∈ GT := gt_mem 648 (by decide +kernel) (by decide +kernel)
theorem gm_94 : Cond.initialized RX5 ∈ GT := gt_mem 94 (by decide +kernel) (by decide +kernel)
theorem gm_647 : Cond.instanceMethod yX5_addOne ∈ GT := gt_mem 647 (by decide +kernel) (by decide +kernel)
theorem gm_22 : Cond.selects RX5 yX5_addOne yX5_addOne ∈ GT := gt_mem 22 (by decide +kernel) (by decide +kernel)
theorem lk_X5_39 : LKV RX5 39 RX5 yX5_addOne cX5_addOne 5 (some .int) 1 := ⟨Or.inl gm_645, gm_647, gm_22, gm_94, gm_648, by decide +kernel⟩
theorem gm_669 : Jvm.Cond.constantLong RX5 47 (-1 : Int64) ∈ GT := gt_mem 669 (by decide +kernel) (by decide +kernel)
theorem fl_X5_32 : FL RX5 32 5 4 := ⟨RX5, TX5, 5, tyX5, rfl, ti_X5, tyX5_ok, nmX5, by decide, rfl, Or.inl gm_320⟩
theorem gm_670 : Cond.methodLinkNest RX5 49 yX6_pointsOf "WrapRuns" ∈ NT := nt_mem 670 (by decide +kernel) rfl
theorem lk_X5_49 : LKS RX5 49 yX6_pointsOf cX6_pointsOf 6 (some .int) 1 := ⟨Or.inr ⟨_, gm_670⟩, gm_624, gm_89, gm_625, by decide +kernel⟩
theorem gm_318 : Cond.fieldLink RX5 52 RX5 (TX5 3).2.1 (TX5 3).2.2.1 ∈ GT := gt_mem 318 (by decide +kernel) (by decide +kernel)
theorem fp_X5_52 : FP RX5 52 5 3 .int := ⟨RX5, TX5, 5, tyX5, rfl, ti_X5, tyX5_ok, nmX5, by decide, rfl, Or.inl gm_318, rfl, by decide +kernel⟩
theorem fl_X5_52 : FL RX5 52 5 3 := ⟨RX5, TX5, 5, tyX5, rfl, ti_X5, tyX5_ok, nmX5, by decide, rfl, Or.inl gm_318⟩
theorem gm_557 : Cond.methodLink RX3 154 yX2_reasonAgainstDrop ∈ GT := gt_mem 557 (by decide +kernel) (by decide +kernel)
theorem lk_X3_154 : LKV RX3 154 RX2 yX2_reasonAgainstDrop cX2_reasonAgainstDrop 2 (some .int) 1 := ⟨Or.inl gm_557, gm_558, gm_559, gm_90, gm_560, by decide +kernel⟩
theorem zk_19 : zk shM shMD [0, 1, 2, 3, 4] = true := by decide +kernel
theorem zs_19 : zs shMD [0, 1, 2, 3, 4] = true := by decide +kernel
abbrev zl_19 : List Nat := [0, 1, 2, 3, 4]
theorem gm_561 : Cond.methodLink RX3 157 yX2_endTurn ∈ GT := gt_mem 561 (by decide +kernel) (by decide +kernel)
theorem gm_564 : Cond.code yX2_endTurn cX2_endTurn 2 none ∈ GT := gt_mem 564 (by decide +kernel) (by decide +kernel)
theorem gm_562 : Cond.instanceMethod yX2_endTurn ∈ GT := gt_mem 562 (by decide +kernel) (by decide +kernel)
theorem gm_563 : Cond.selects RX2 yX2_endTurn yX2_endTurn ∈ GT := gt_mem 563 (by decide +kernel) (by decide +kernel)
theorem lk_X3_157 : LKV RX3 157 RX2 yX2_endTurn cX2_endTurn 2 none 1 := ⟨Or.inl gm_561, gm_562, gm_563, gm_90, gm_564, by decide +kernel⟩
theorem gm_574 : Cond.methodLink RX3 160 yX2_handWithout ∈ GT := gt_mem 574 (by decide +kernel) (by decide +kernel)
theorem gm_577 : Cond.code yX2_handWithout cX2_handWithout 2 (some .long) ∈ GT := gt_mem 577 (by decide +kernel) (by decide +kernel)
theorem gm_575 : Cond.instanceMethod yX2_handWithout ∈ GT := gt_mem 575 (by decide +kernel) (by decide +kernel)
theorem gm_576 : Cond.selects RX2 yX2_handWithout yX2_handWithout ∈ GT := gt_mem 576 (by decide +kernel) (by decide +kernel)
theorem lk_X3_160 : LKV RX3 160 RX2 yX2_handWithout cX2_handWithout 2 (some .long) 1 := ⟨Or.inl gm_574, gm_575, gm_576, gm_90, gm_577, by decide +kernel⟩
theorem gm_579 : Cond.methodLink RX3 163 yX2_otherHand ∈ GT := gt_mem 579 (by decide +kernel) (by decide +kernel)
theorem gm_582 : Cond.code yX2_otherHand cX2_otherHand 1 (some .long) ∈ GT := gt_mem 582 (by decide +kernel) (by decide +kernel)
theorem gm_580 : Cond.instanceMethod yX2_otherHand ∈ GT := gt_mem 580 (by decide +kernel) (by decide +kernel)
theorem gm_581 : Cond.selects RX2 yX2_otherHand yX2_otherHand ∈ GT := gt_mem 581 (by decide +kernel) (by decide +kernel)
theorem lk_X3_163 : LKV RX3 163 RX2 yX2_otherHand cX2_otherHand 1 (some .long) 0 := ⟨Or.inl gm_579, gm_580, gm_581, gm_90, gm_582, by decide +kernel⟩
theorem gm_583 : Cond.methodLink RX3 167 yX5_settle ∈ GT := gt_mem 583 (by decide +kernel) (by decide +kernel)
theorem gm_586 : Cond.code yX5_settle cX5_settle 9 none ∈ GT := gt_mem 586 (by decide +kernel) (by decide +kernel)
theorem gm_584 : Cond.instanceMethod yX5_settle ∈ GT := gt_mem 584 (by decide +kernel) (by decide +kernel)
theorem gm_585 : Cond.selects RX5 yX5_settle yX5_settle ∈ GT := gt_mem 585 (by decide +kernel) (by decide +kernel)
theorem lk_X3_167 : LKV RX3 167 RX5 yX5_settle cX5_settle 9 none 2 := ⟨Or.inl gm_583, gm_584, gm_585, gm_94, gm_586, by decide +kernel⟩
theorem zk_20 : zk shD shMD [5, 6, 7, 8, 9, 10, 11, 12, 13, 14, 15, 16, 17, 18, 19] = true := by decide +kernel
theorem zs_20 : zs shMD [5, 6, 7, 8, 9, 10, 11, 12, 13, 14, 15, 16, 17, 18, 19] = true := by decide +kernel
abbrev zl_20 : List Nat := [5, 6, 7, 8, 9, 10, 11, 12, 13, 14, 15, 16, 17, 18, 19]
theorem gm_317 : Cond.fieldLinkNest RX3 173 RX5 (TX5 2).2.1 (TX5 2).2.2.1 "WrapRuns" ∈ NT := nt_mem 317 (by decide +kernel) rfl
theorem fl_X3_173 : FL RX3 173 5 2 := ⟨RX5, TX5, 5, tyX5, rfl, ti_X5, tyX5_ok, nmX5, by decide, rfl, Or.inr ⟨_, gm_317⟩⟩
theorem gm_671 : Cond.methodLink RX3 176 yX2_reasonAgainstKnock ∈ GT := gt_mem 671 (by decide +kernel) (by decide +kernel)
theorem gm_674 : Cond.code yX2_reasonAgainstKnock cX2_reasonAgainstKnock 4 (some .int) ∈ GT := gt_mem 674 (by decide +kernel) (by decide +kernel)
theorem gm_672 : Cond.instanceMethod yX2_reasonAgainstKnock ∈ GT := gt_mem 672 (by decide +kernel) (by decide +kernel)
theorem gm_673 : Cond.selects RX2 yX2_reasonAgainstKnock yX2_reasonAgainstKnock ∈ GT := gt_mem 673 (by decide +kernel) (by decide +kernel)
theorem lk_X3_176 : LKV RX3 176 RX2 yX2_reasonAgainstKnock cX2_reasonAgainstKnock 4 (some .int) 2 := ⟨Or.inl gm_671, gm_672, gm_673, gm_90, gm_674, by decide +kernel⟩
theorem gm_676 : Cond.methodLink RX3 179 yX5_gain ∈ GT := gt_mem 676 (by decide +kernel) (by decide +kernel)
theorem gm_679 : Cond.code yX5_gain cX5_gain 1 (some .int) ∈ GT := gt_mem 679 (by decide +kernel) (by decide +kernel)
theorem gm_677 : Cond.instanceMethod yX5_gain ∈ GT := gt_mem 677 (by decide +kernel) (by decide +kernel)
theorem gm_678 : Cond.selects RX5 yX5_gain yX5_gain ∈ GT := gt_mem 678 (by decide +kernel) (by decide +kernel)
theorem lk_X3_179 : LKV RX3 179 RX5 yX5_gain cX5_gain 1 (some .int) 0 := ⟨Or.inl gm_676, gm_677, gm_678, gm_94, gm_679, by decide +kernel⟩
theorem gm_680 : Cond.methodLink RX3 182 yX2_endRound ∈ GT := gt_mem 680 (by decide +kernel) (by decide +kernel)
theorem gm_683 : Cond.code yX2_endRound cX2_endRound 3 none ∈ GT := gt_mem 683 (by decide +kernel) (by decide +kernel)
theorem gm_681 : Cond.instanceMethod yX2_endRound ∈ GT := gt_mem 681 (by decide +kernel) (by decide +kernel)
theorem gm_682 : Cond.selects RX2 yX2_endRound yX2_endRound ∈ GT := gt_mem 682 (by decide +kernel) (by decide +kernel)
theorem lk_X3_182 : LKV RX3 182 RX2 yX2_endRound cX2_endRound 3 none 2 := ⟨Or.inl gm_680, gm_681, gm_682, gm_90, gm_683, by decide +kernel⟩
theorem gm_687 : Cond.methodLink RX3 186 yX2_reasonAgainstDeal ∈ GT := gt_mem 687 (by decide +kernel) (by decide +kernel)
theorem gm_690 : Cond.code yX2_reasonAgainstDeal cX2_reasonAgainstDeal 1 (some .int) ∈ GT := gt_mem 690 (by decide +kernel) (by decide +kernel)
theorem gm_688 : Cond.instanceMethod yX2_reasonAgainstDeal ∈ GT := gt_mem 688 (by decide +kernel) (by decide +kernel)
theorem gm_689 : Cond.selects RX2 yX2_reasonAgainstDeal yX2_reasonAgainstDeal ∈ GT := gt_mem 689 (by decide +kernel) (by decide +kernel)
theorem lk_X3_186 : LKV RX3 186 RX2 yX2_reasonAgainstDeal cX2_reasonAgainstDeal 1 (some .int) 0 := ⟨Or.inl gm_687, gm_688, gm_689, gm_90, gm_690, by decide +kernel⟩
theorem gm_695 : Cond.methodLink RX3 189 yX2_beginNextRound ∈ GT := gt_mem 695 (by decide +kernel) (by decide +kernel)
theorem gm_698 : Cond.code yX2_beginNextRound cX2_beginNextRound 1 none ∈ GT := gt_mem 698 (by decide +kernel) (by decide +kernel)
theorem gm_696 : Cond.instanceMethod yX2_beginNextRound ∈ GT := gt_mem 696 (by decide +kernel) (by decide +kernel)
theorem gm_697 : Cond.selects RX2 yX2_beginNextRound yX2_beginNextRound ∈ GT := gt_mem 697 (by decide +kernel) (by decide +kernel)
theorem lk_X3_189 : LKV RX3 189 RX2 yX2_beginNextRound cX2_beginNextRound 1 none 0 := ⟨Or.inl gm_695, gm_696, gm_697, gm_90, gm_698, by decide +kernel⟩
theorem gm_701 : Cond.methodLink RX3 192 yX2_reasonAgainstDraw ∈ GT := gt_mem 701 (by decide +kernel) (by decide +kernel)
theorem gm_704 : Cond.code yX2_reasonAgainstDraw cX2_reasonAgainstDraw 1 (some .int) ∈ GT := gt_mem 704 (by decide +kernel) (by decide +kernel)
theorem gm_702 : Cond.instanceMethod yX2_reasonAgainstDraw ∈ GT := gt_mem 702 (by decide +kernel) (by decide +kernel)
theorem gm_703 : Cond.selects RX2 yX2_reasonAgainstDraw yX2_reasonAgainstDraw ∈ GT := gt_mem 703 (by decide +kernel) (by decide +kernel)
theorem lk_X3_192 : LKV RX3 192 RX2 yX2_reasonAgainstDraw cX2_reasonAgainstDraw 1 (some .int) 0 := ⟨Or.inl gm_701, gm_702, gm_703, gm_90, gm_704, by decide +kernel⟩
theorem gm_705 : Cond.methodLink RX3 195 yX2_takeCard ∈ GT := gt_mem 705 (by decide +kernel) (by decide +kernel)
theorem gm_708 : Cond.code yX2_takeCard cX2_takeCard 3 (some .int) ∈ GT := gt_mem 708 (by decide +kernel) (by decide +kernel)
theorem gm_706 : Cond.instanceMethod yX2_takeCard ∈ GT := gt_mem 706 (by decide +kernel) (by decide +kernel)
theorem gm_707 : Cond.selects RX2 yX2_takeCard yX2_takeCard ∈ GT := gt_mem 707 (by decide +kernel) (by decide +kernel)
theorem lk_X3_195 : LKV RX3 195 RX2 yX2_takeCard cX2_takeCard 3 (some .int) 1 := ⟨Or.inl gm_705, gm_706, gm_707, gm_90, gm_708, by decide +kernel⟩
theorem gm_537 : Cond.methodLink RX3 128 yX3_moveTold ∈ GT := gt_mem 537 (by decide +kernel) (by decide +kernel)
theorem gm_540 : Cond.code yX3_moveTold cX3_moveTold 1 (some .int) ∈ GT := gt_mem 540 (by decide +kernel) (by decide +kernel)
theorem gm_539 : Cond.instanceMethod yX3_moveTold ∈ GT := gt_mem 539 (by decide +kernel) (by decide +kernel)
theorem gm_12 : Cond.selects RX3 yX3_moveTold yX3_moveTold ∈ GT := gt_mem 12 (by decide +kernel) (by decide +kernel)
theorem lk_X3_128 : LKV RX3 128 RX3 yX3_moveTold cX3_moveTold 1 (some .int) 0 := ⟨Or.inl gm_537, gm_539, gm_12, gm_92, gm_540, by decide +kernel⟩
theorem zk_21 : zk shR shRMD [0, 1, 2] = true := by decide +kernel
theorem zs_21 : zs shRMD [0, 1, 2] = true := by decide +kernel
abbrev zl_21 : List Nat := [0, 1, 2]
theorem gm_546 : Cond.methodLink RX3 131 yX3_readHeldCard ∈ GT := gt_mem 546 (by decide +kernel) (by decide +kernel)
theorem gm_549 : Cond.code yX3_readHeldCard cX3_readHeldCard 3 (some .int) ∈ GT := gt_mem 549 (by decide +kernel) (by decide +kernel)
theorem gm_548 : Cond.instanceMethod yX3_readHeldCard ∈ GT := gt_mem 548 (by decide +kernel) (by decide +kernel)
theorem gm_13 : Cond.selects RX3 yX3_readHeldCard yX3_readHeldCard ∈ GT := gt_mem 13 (by decide +kernel) (by decide +kernel)
theorem lk_X3_131 : LKV RX3 131 RX3 yX3_readHeldCard cX3_readHeldCard 3 (some .int) 1 := ⟨Or.inl gm_546, gm_548, gm_13, gm_92, gm_549, by decide +kernel⟩
theorem zk_22 : zk shRM shRMD [0, 1, 2, 3, 4, 5, 6, 7] = true := by decide +kernel
theorem zs_22 : zs shRMD [0, 1, 2, 3, 4, 5, 6, 7] = true := by decide +kernel
abbrev zl_22 : List Nat := [0, 1, 2, 3, 4, 5, 6, 7]
theorem gm_554 : Cond.methodLink RX3 134 yX3_play ∈ GT := gt_mem 554 (by decide +kernel) (by decide +kernel)
theorem gm_556 : Cond.code yX3_play cX3_play 5 (some .boolean) ∈ GT := gt_mem 556 (by decide +kernel) (by decide +kernel)
theorem gm_555 : Cond.static yX3_play ∈ GT := gt_mem 555 (by decide +kernel) (by decide +kernel)
theorem lk_X3_134 : LKS RX3 134 yX3_play cX3_play 5 (some .boolean) 4 := ⟨Or.inl gm_554, gm_555, gm_92, gm_556, by decide +kernel⟩
theorem zk_23 : zk shMD shRMD [3, 4, 5, 6, 7, 8, 9, 10, 11, 12, 13, 14, 15, 16, 17, 18, 19, 20, 21, 22] = true := by decide +kernel
theorem zs_23 : zs shRMD [3, 4, 5, 6, 7, 8, 9, 10, 11, 12, 13, 14, 15, 16, 17, 18, 19, 20, 21, 22] = true := by decide +kernel
abbrev zl_23 : List Nat := [3, 4, 5, 6, 7, 8, 9, 10, 11, 12, 13, 14, 15, 16, 17, 18, 19, 20, 21, 22]
theorem gm_338 : Cond.methodLink RX4 3 Lib.objectInit ∈ GT := gt_mem 338 (by decide +kernel) (by decide +kernel)
theorem ti_X4 : ∀ w ∈ u_ws RX4 TX4 2, w ∈ GT := gt_ws [342, 344] (by decide +kernel) (by decide +kernel)
theorem gm_339 : Cond.fieldLink RX4 11 RX4 (TX4 0).2.1 (TX4 0).2.2.1 ∈ GT := gt_mem 339 (by decide +kernel) (by decide +kernel)
theorem ff_X4_11 : FF RX4 11 4 0 := ⟨RX4, TX4, 2, tyX4, tyX4 0, rfl, ti_X4, tyX4_ok, nmX4, by decide, rfl, rfl, gm_339, rfl, tyX4_ok 0 (by decide), fun _ => ⟨rfl, rfl⟩⟩
theorem zk_24 : zcs shPc shP [(0, 0)] = true := by decide +kernel
theorem gm_340 : Cond.fieldLink RX4 15 RX4 (TX4 1).2.1 (TX4 1).2.2.1 ∈ GT := gt_mem 340 (by decide +kernel) (by decide +kernel)
theorem fl_X4_15 : FL RX4 15 4 1 := ⟨RX4, TX4, 2, tyX4, rfl, ti_X4, tyX4_ok, nmX4, by decide, rfl, Or.inl gm_340⟩
theorem fl_X4_11 : FL RX4 11 4 0 := ⟨RX4, TX4, 2, tyX4, rfl, ti_X4, tyX4_ok, nmX4, by decide, rfl, Or.inl gm_339⟩
theorem fp_X4_15 : FP RX4 15 4 1 .int := ⟨RX4, TX4, 2, tyX4, rfl, ti_X4, tyX4_ok, nmX4, by decide, rfl, Or.inl gm_340, rfl, by decide +kernel⟩
theorem gm_1127 : Cond.methodLink RX4 63 yJ_String_length ∈ GT := gt_mem 1127 (by decide +kernel) (by decide +kernel)
theorem lk_X4_63 : LKV RX4 63 "java/lang/String" yJ_String_length cJ_String_length 1 (some .int) 0 := ⟨Or.inl gm_1127, gm_353, gm_354, gm_96, gm_355, by decide +kernel⟩
theorem gm_1129 : Cond.methodLink RX4 70 yJ_String_charAt ∈ GT := gt_mem 1129 (by decide +kernel) (by decide +kernel)
theorem lk_X4_70 : LKV RX4 70 "java/lang/String" yJ_String_charAt cJ_String_charAt 2 (some .char) 1 := ⟨Or.inl gm_1129, gm_363, gm_364, gm_96, gm_365, by decide +kernel⟩
theorem gm_1105 : Cond.methodLink RX4 24 yX4_writeSign ∈ GT := gt_mem 1105 (by decide +kernel) (by decide +kernel)
theorem gm_1108 : Cond.code yX4_writeSign cX4_writeSign 2 none ∈ GT := gt_mem 1108 (by decide +kernel) (by decide +kernel)
theorem gm_95 : Cond.initialized RX4 ∈ GT := gt_mem 95 (by decide +kernel) (by decide +kernel)
theorem gm_1107 : Cond.instanceMethod yX4_writeSign ∈ GT := gt_mem 1107 (by decide +kernel) (by decide +kernel)
theorem gm_26 : Cond.selects RX4 yX4_writeSign yX4_writeSign ∈ GT := gt_mem 26 (by decide +kernel) (by decide +kernel)
theorem lk_X4_24 : LKV RX4 24 RX4 yX4_writeSign cX4_writeSign 2 none 1 := ⟨Or.inl gm_1105, gm_1107, gm_26, gm_95, gm_1108, by decide +kernel⟩
theorem zk_25 : zk shN shP [] = true := by decide +kernel
theorem zs_25 : zs shP [] = true := by decide +kernel
abbrev zl_25 : List Nat := []
theorem gm_1121 : Cond.methodLinkNest RX4 54 yX6_has "WrapRuns" ∈ NT := nt_mem 1121 (by decide +kernel) rfl
theorem lk_X4_54 : LKS RX4 54 yX6_has cX6_has 3 (some .boolean) 2 := ⟨Or.inr ⟨_, gm_1121⟩, gm_461, gm_89, gm_462, by decide +kernel⟩
theorem gm_1122 : Cond.methodLink RX4 58 yX4_writeCard ∈ GT := gt_mem 1122 (by decide +kernel) (by decide +kernel)
theorem gm_1125 : Cond.code yX4_writeCard cX4_writeCard 4 none ∈ GT := gt_mem 1125 (by decide +kernel) (by decide +kernel)
theorem gm_1124 : Cond.instanceMethod yX4_writeCard ∈ GT := gt_mem 1124 (by decide +kernel) (by decide +kernel)
theorem gm_29 : Cond.selects RX4 yX4_writeCard yX4_writeCard ∈ GT := gt_mem 29 (by decide +kernel) (by decide +kernel)
theorem lk_X4_58 : LKV RX4 58 RX4 yX4_writeCard cX4_writeCard 4 none 1 := ⟨Or.inl gm_1122, gm_1124, gm_29, gm_95, gm_1125, by decide +kernel⟩
theorem gm_1114 : Cond.methodLinkNest RX4 48 yX6_kindOf "WrapRuns" ∈ NT := nt_mem 1114 (by decide +kernel) rfl
theorem lk_X4_48 : LKS RX4 48 yX6_kindOf cX6_kindOf 4 (some .int) 1 := ⟨Or.inr ⟨_, gm_1114⟩, gm_656, gm_89, gm_657, by decide +kernel⟩
theorem gm_1116 : Cond.methodLinkNest RX4 40 yX6_lowestOf "WrapRuns" ∈ NT := nt_mem 1116 (by decide +kernel) rfl
theorem lk_X4_40 : LKS RX4 40 yX6_lowestOf cX6_lowestOf 2 (some .int) 1 := ⟨Or.inr ⟨_, gm_1116⟩, gm_620, gm_89, gm_621, by decide +kernel⟩
theorem gm_1117 : Cond.methodLink RX4 44 yX4_writeCards ∈ GT := gt_mem 1117 (by decide +kernel) (by decide +kernel)
theorem gm_1120 : Cond.code yX4_writeCards cX4_writeCards 7 none ∈ GT := gt_mem 1120 (by decide +kernel) (by decide +kernel)
theorem gm_1119 : Cond.instanceMethod yX4_writeCards ∈ GT := gt_mem 1119 (by decide +kernel) (by decide +kernel)
theorem gm_28 : Cond.selects RX4 yX4_writeCards yX4_writeCards ∈ GT := gt_mem 28 (by decide +kernel) (by decide +kernel)
theorem lk_X4_44 : LKV RX4 44 RX4 yX4_writeCards cX4_writeCards 7 none 2 := ⟨Or.inl gm_1117, gm_1119, gm_28, gm_95, gm_1120, by decide +kernel⟩
theorem gm_1115 : Cond.methodLinkNest RX4 51 yX6_firstOf "WrapRuns" ∈ NT := nt_mem 1115 (by decide +kernel) rfl
theorem lk_X4_51 : LKS RX4 51 yX6_firstOf cX6_firstOf 5 (some .int) 1 := ⟨Or.inr ⟨_, gm_1115⟩, gm_1015, gm_89, gm_1016, by decide +kernel⟩
theorem gm_261 : Cond.fieldLinkNest RX4 19 RX1 (TX1 7).2.1 (TX1 7).2.2.1 "WrapRuns" ∈ NT := nt_mem 261 (by decide +kernel) rfl
theorem fl_X4_19 : FL RX4 19 1 7 := ⟨RX1, TX1, 14, tyX1, rfl, ti_X1, tyX1_ok, nmX1, by decide, rfl, Or.inr ⟨_, gm_261⟩⟩
theorem gm_1109 : Cond.methodLink RX4 28 yX1_foundAt ∈ GT := gt_mem 1109 (by decide +kernel) (by decide +kernel)
theorem lk_X4_28 : LKV RX4 28 RX1 yX1_foundAt cX1_foundAt 2 (some .long) 1 := ⟨Or.inl gm_1109, gm_651, gm_652, gm_93, gm_653, by decide +kernel⟩
theorem zk_26 : zk shL shPL [2, 3, 4, 5, 6, 7, 8] = true := by decide +kernel
theorem zs_26 : zs shPL [2, 3, 4, 5, 6, 7, 8] = true := by decide +kernel
abbrev zl_26 : List Nat := [2, 3, 4, 5, 6, 7, 8]
theorem gm_1110 : Cond.methodLink RX4 32 yX4_writeMeld ∈ GT := gt_mem 1110 (by decide +kernel) (by decide +kernel)
theorem gm_1113 : Cond.code yX4_writeMeld cX4_writeMeld 3 none ∈ GT := gt_mem 1113 (by decide +kernel) (by decide +kernel)
theorem gm_1112 : Cond.instanceMethod yX4_writeMeld ∈ GT := gt_mem 1112 (by decide +kernel) (by decide +kernel)
theorem gm_27 : Cond.selects RX4 yX4_writeMeld yX4_writeMeld ∈ GT := gt_mem 27 (by decide +kernel) (by decide +kernel)
theorem lk_X4_32 : LKV RX4 32 RX4 yX4_writeMeld cX4_writeMeld 3 none 1 := ⟨Or.inl gm_1110, gm_1112, gm_27, gm_95, gm_1113, by decide +kernel⟩
theorem zk_27 : zk shP shPL [0, 1] = true := by decide +kernel
theorem zs_27 : zs shPL [0, 1] = true := by decide +kernel
abbrev zl_27 : List Nat := [0, 1]
theorem gm_267 : Cond.fieldLinkNest RX4 36 RX1 (TX1 9).2.1 (TX1 9).2.2.1 "WrapRuns" ∈ NT := nt_mem 267 (by decide +kernel) rfl
theorem fl_X4_36 : FL RX4 36 1 9 := ⟨RX1, TX1, 14, tyX1, rfl, ti_X1, tyX1_ok, nmX1, by decide, rfl, Or.inr ⟨_, gm_267⟩⟩
theorem zk_28 : zk shN shPL [] = true := by decide +kernel
theorem zs_28 : zs shPL [] = true := by decide +kernel
abbrev zl_28 : List Nat := []
theorem gm_310 : Cond.methodLink RX5 3 Lib.objectInit ∈ GT := gt_mem 310 (by decide +kernel) (by decide +kernel)
theorem gm_311 : Cond.classLink RX5 9 RX1 ∈ GT := gt_mem 311 (by decide +kernel) (by decide +kernel)
theorem gm_249 : Cond.instantiable RX1 14 ∈ GT := gt_mem 249 (by decide +kernel) (by decide +kernel)
theorem nw_X5_9 : NW RX5 9 1 14 ([6, 8, 10, 12, 0, 14, 16, 0, 0, 1, 0, 1, 1, 0], 0, 0) := ⟨RX1, TX1, tyX1, rfl, ti_X1, tyX1_ok, gm_311, gm_249, gm_93, fun j hj a => by
  match j, hj with
  | 0, _ => rfl
  | 1, _ => rfl
  | 2, _ => rfl
  | 3, _ => rfl
  | 4, _ => rfl
  | 5, _ => rfl
  | 6, _ => rfl
  | 7, _ => rfl
  | 8, _ => rfl
  | 9, _ => rfl
  | 10, _ => rfl
  | 11, _ => rfl
  | 12, _ => rfl
  | 13, _ => rfl
  | q + 14, hq => exact absurd hq (by omega)⟩
theorem gm_312 : Cond.methodLinkNest RX5 11 yX1_init "WrapRuns" ∈ NT := nt_mem 312 (by decide +kernel) rfl
theorem gm_251 : Cond.instanceMethod yX1_init ∈ GT := gt_mem 251 (by decide +kernel) (by decide +kernel)
theorem gm_252 : Cond.code yX1_init cX1_init 1 none ∈ GT := gt_mem 252 (by decide +kernel) (by decide +kernel)
theorem li_X5_11 : LKI RX5 11 yX1_init cX1_init 1 := ⟨Or.inr ⟨_, gm_312⟩, rfl, gm_251, gm_93, gm_252, by decide +kernel⟩
theorem ff_X5_12 : FF RX5 12 5 0 := ⟨RX5, TX5, 5, tyX5, tyX5 0, rfl, ti_X5, tyX5_ok, nmX5, by decide, rfl, rfl, gm_313, rfl, tyX5_ok 0 (by decide), fun _ => ⟨rfl, rfl⟩⟩
theorem zk_29 : zk shL shDc [1, 2, 3, 4, 5, 6, 7] = true := by decide +kernel
abbrev zl_29 : List Nat := [1, 2, 3, 4, 5, 6, 7]
theorem ff_X5_18 : FF RX5 18 5 1 := ⟨RX5, TX5, 5, tyX5, tyX5 1, rfl, ti_X5, tyX5_ok, nmX5, by decide, rfl, rfl, gm_314, rfl, tyX5_ok 1 (by decide), fun _ => ⟨rfl, rfl⟩⟩
theorem zk_30 : zk shL shDc [8, 9, 10, 11, 12, 13, 14] = true := by decide +kernel
abbrev zl_30 : List Nat := [8, 9, 10, 11, 12, 13, 14]
theorem zk_31 : zcs shDc shD [(0, 0), (0, 1)] = true := by decide +kernel
theorem gm_115 : Cond.methodLink RX6 3 Lib.objectInit ∈ GT := gt_mem 115 (by decide +kernel) (by decide +kernel)
theorem gm_118 : Cond.classLink RX6 9 RX2 ∈ GT := gt_mem 118 (by decide +kernel) (by decide +kernel)
theorem nw_X6_9 : NW RX6 9 2 17 ([0, 0, 0, 1, 0, 0, 0, 0, 0, 0, 0, 6, 8, 10, 0, 12, 0], 0, 0) := ⟨RX2, TX2, tyX2, rfl, ti_X2, tyX2_ok, gm_118, gm_119, gm_90, fun j hj a => by
  match j, hj with
  | 0, _ => rfl
  | 1, _ => rfl
  | 2, _ => rfl
  | 3, _ => rfl
  | 4, _ => rfl
  | 5, _ => rfl
  | 6, _ => rfl
  | 7, _ => rfl
  | 8, _ => rfl
  | 9, _ => rfl
  | 10, _ => rfl
  | 11, _ => rfl
  | 12, _ => rfl
  | 13, _ => rfl
  | 14, _ => rfl
  | 15, _ => rfl
  | 16, _ => rfl
  | q + 17, hq => exact absurd hq (by omega)⟩
theorem gm_120 : Cond.methodLinkNest RX6 11 yX2_init "WrapRuns" ∈ NT := nt_mem 120 (by decide +kernel) rfl
theorem li_X6_11 : LKI RX6 11 yX2_init cX2_init 1 := ⟨Or.inr ⟨_, gm_120⟩, rfl, gm_121, gm_90, gm_122, by decide +kernel⟩
theorem ti_X6 : ∀ w ∈ u_ws RX6 TX6 8, w ∈ GT := gt_ws [508, 510, 512, 514, 516, 518, 520, 522] (by decide +kernel) (by decide +kernel)
theorem gm_500 : Cond.fieldLink RX6 12 RX6 (TX6 0).2.1 (TX6 0).2.2.1 ∈ GT := gt_mem 500 (by decide +kernel) (by decide +kernel)
theorem ff_X6_12 : FF RX6 12 6 0 := ⟨RX6, TX6, 8, tyX6, tyX6 0, rfl, ti_X6, tyX6_ok, nmX6, by decide, rfl, rfl, gm_500, rfl, tyX6_ok 0 (by decide), fun _ => ⟨rfl, rfl⟩⟩
theorem zk_32 : zk shM shXc [1, 2, 3, 4, 5] = true := by decide +kernel
abbrev zl_32 : List Nat := [1, 2, 3, 4, 5]
theorem gm_501 : Cond.fieldLink RX6 16 RX6 (TX6 1).2.1 (TX6 1).2.2.1 ∈ GT := gt_mem 501 (by decide +kernel) (by decide +kernel)
theorem ff_X6_16 : FF RX6 16 6 1 := ⟨RX6, TX6, 8, tyX6, tyX6 1, rfl, ti_X6, tyX6_ok, nmX6, by decide, rfl, rfl, gm_501, rfl, tyX6_ok 1 (by decide), fun _ => ⟨rfl, rfl⟩⟩
theorem zk_33 : zk shM shXc [6, 7, 8, 9, 10] = true := by decide +kernel
abbrev zl_33 : List Nat := [6, 7, 8, 9, 10]
theorem gm_196 : Cond.classLink RX6 19 RX0 ∈ GT := gt_mem 196 (by decide +kernel) (by decide +kernel)
theorem gm_197 : Cond.instantiable RX0 3 ∈ GT := gt_mem 197 (by decide +kernel) (by decide +kernel)
theorem gm_91 : Cond.initialized RX0 ∈ GT := gt_mem 91 (by decide +kernel) (by decide +kernel)
theorem nw_X6_19 : NW RX6 19 0 3 ([6, 0, 0], 0, 0) := ⟨RX0, TX0, tyX0, rfl, ti_X0, tyX0_ok, gm_196, gm_197, gm_91, fun j hj a => by
  match j, hj with
  | 0, _ => rfl
  | 1, _ => rfl
  | 2, _ => rfl
  | q + 3, hq => exact absurd hq (by omega)⟩
theorem gm_198 : Cond.methodLinkNest RX6 21 yX0_init "WrapRuns" ∈ NT := nt_mem 198 (by decide +kernel) rfl
theorem gm_199 : Cond.instanceMethod yX0_init ∈ GT := gt_mem 199 (by decide +kernel) (by decide +kernel)
theorem gm_200 : Cond.code yX0_init cX0_init 1 none ∈ GT := gt_mem 200 (by decide +kernel) (by decide +kernel)
theorem li_X6_21 : LKI RX6 21 yX0_init cX0_init 1 := ⟨Or.inr ⟨_, gm_198⟩, rfl, gm_199, gm_91, gm_200, by decide +kernel⟩
theorem gm_502 : Cond.fieldLink RX6 22 RX6 (TX6 2).2.1 (TX6 2).2.2.1 ∈ GT := gt_mem 502 (by decide +kernel) (by decide +kernel)
theorem ff_X6_22 : FF RX6 22 6 2 := ⟨RX6, TX6, 8, tyX6, tyX6 2, rfl, ti_X6, tyX6_ok, nmX6, by decide, rfl, rfl, gm_502, rfl, tyX6_ok 2 (by decide), fun _ => ⟨rfl, rfl⟩⟩
theorem zk_34 : zk shH shXc [11, 12, 13, 14, 15, 16, 17, 18, 19, 20, 21, 22, 23, 24, 25, 26, 27, 28, 29, 30, 31, 32, 33, 34, 35, 36, 37, 38, 39, 40, 41, 42, 43, 44, 45, 46, 47, 48, 49, 50, 51, 52, 53, 54, 55, 56, 57, 58, 59, 60, 61, 62] = true := by decide +kernel
abbrev zl_34 : List Nat := [11, 12, 13, 14, 15, 16, 17, 18, 19, 20, 21, 22, 23, 24, 25, 26, 27, 28, 29, 30, 31, 32, 33, 34, 35, 36, 37, 38, 39, 40, 41, 42, 43, 44, 45, 46, 47, 48, 49, 50, 51, 52, 53, 54, 55, 56, 57, 58, 59, 60, 61, 62]
theorem gm_503 : Cond.fieldLink RX6 26 RX6 (TX6 3).2.1 (TX6 3).2.2.1 ∈ GT := gt_mem 503 (by decide +kernel) (by decide +kernel)
theorem ff_X6_26 : FF RX6 26 6 3 := ⟨RX6, TX6, 8, tyX6, tyX6 3, rfl, ti_X6, tyX6_ok, nmX6, by decide, rfl, rfl, gm_503, rfl, tyX6_ok 3 (by decide), fun _ => ⟨rfl, rfl⟩⟩
theorem zk_35 : zk shQ2 shXc [63, 64, 65, 66, 67, 68, 69, 70, 71, 72, 73] = true := by decide +kernel
abbrev zl_35 : List Nat := [63, 64, 65, 66, 67, 68, 69, 70, 71, 72, 73]
theorem gm_215 : Cond.classLink RX6 30 RX3 ∈ GT := gt_mem 215 (by decide +kernel) (by decide +kernel)
theorem gm_216 : Cond.instantiable RX3 8 ∈ GT := gt_mem 216 (by decide +kernel) (by decide +kernel)
theorem nw_X6_30 : NW RX6 30 3 8 ([6, 0, 0, 0, 0, 0, 8, 0], 0, 0) := ⟨RX3, TX3, tyX3, rfl, ti_X3, tyX3_ok, gm_215, gm_216, gm_92, fun j hj a => by
  match j, hj with
  | 0, _ => rfl
  | 1, _ => rfl
  | 2, _ => rfl
  | 3, _ => rfl
  | 4, _ => rfl
  | 5, _ => rfl
  | 6, _ => rfl
  | 7, _ => rfl
  | q + 8, hq => exact absurd hq (by omega)⟩
theorem gm_217 : Cond.methodLinkNest RX6 32 yX3_init "WrapRuns" ∈ NT := nt_mem 217 (by decide +kernel) rfl
theorem gm_218 : Cond.instanceMethod yX3_init ∈ GT := gt_mem 218 (by decide +kernel) (by decide +kernel)
theorem gm_219 : Cond.code yX3_init cX3_init 1 none ∈ GT := gt_mem 219 (by decide +kernel) (by decide +kernel)
theorem li_X6_32 : LKI RX6 32 yX3_init cX3_init 1 := ⟨Or.inr ⟨_, gm_217⟩, rfl, gm_218, gm_92, gm_219, by decide +kernel⟩
theorem gm_504 : Cond.fieldLink RX6 33 RX6 (TX6 4).2.1 (TX6 4).2.2.1 ∈ GT := gt_mem 504 (by decide +kernel) (by decide +kernel)
theorem ff_X6_33 : FF RX6 33 6 4 := ⟨RX6, TX6, 8, tyX6, tyX6 4, rfl, ti_X6, tyX6_ok, nmX6, by decide, rfl, rfl, gm_504, rfl, tyX6_ok 4 (by decide), fun _ => ⟨rfl, rfl⟩⟩
theorem zk_36 : zk shR shXc [74, 75, 76] = true := by decide +kernel
abbrev zl_36 : List Nat := [74, 75, 76]
theorem gm_248 : Cond.classLink RX6 37 RX1 ∈ GT := gt_mem 248 (by decide +kernel) (by decide +kernel)
theorem nw_X6_37 : NW RX6 37 1 14 ([6, 8, 10, 12, 0, 14, 16, 0, 0, 1, 0, 1, 1, 0], 0, 0) := ⟨RX1, TX1, tyX1, rfl, ti_X1, tyX1_ok, gm_248, gm_249, gm_93, fun j hj a => by
  match j, hj with
  | 0, _ => rfl
  | 1, _ => rfl
  | 2, _ => rfl
  | 3, _ => rfl
  | 4, _ => rfl
  | 5, _ => rfl
  | 6, _ => rfl
  | 7, _ => rfl
  | 8, _ => rfl
  | 9, _ => rfl
  | 10, _ => rfl
  | 11, _ => rfl
  | 12, _ => rfl
  | 13, _ => rfl
  | q + 14, hq => exact absurd hq (by omega)⟩
theorem gm_250 : Cond.methodLinkNest RX6 39 yX1_init "WrapRuns" ∈ NT := nt_mem 250 (by decide +kernel) rfl
theorem li_X6_39 : LKI RX6 39 yX1_init cX1_init 1 := ⟨Or.inr ⟨_, gm_250⟩, rfl, gm_251, gm_93, gm_252, by decide +kernel⟩
theorem gm_505 : Cond.fieldLink RX6 40 RX6 (TX6 5).2.1 (TX6 5).2.2.1 ∈ GT := gt_mem 505 (by decide +kernel) (by decide +kernel)
theorem ff_X6_40 : FF RX6 40 6 5 := ⟨RX6, TX6, 8, tyX6, tyX6 5, rfl, ti_X6, tyX6_ok, nmX6, by decide, rfl, rfl, gm_505, rfl, tyX6_ok 5 (by decide), fun _ => ⟨rfl, rfl⟩⟩
theorem zk_37 : zk shL shXc [77, 78, 79, 80, 81, 82, 83] = true := by decide +kernel
abbrev zl_37 : List Nat := [77, 78, 79, 80, 81, 82, 83]
theorem gm_305 : Cond.classLink RX6 44 RX5 ∈ GT := gt_mem 305 (by decide +kernel) (by decide +kernel)
theorem gm_306 : Cond.instantiable RX5 5 ∈ GT := gt_mem 306 (by decide +kernel) (by decide +kernel)
theorem nw_X6_44 : NW RX6 44 5 5 ([6, 20, 0, 0, 0], 0, 0) := ⟨RX5, TX5, tyX5, rfl, ti_X5, tyX5_ok, gm_305, gm_306, gm_94, fun j hj a => by
  match j, hj with
  | 0, _ => rfl
  | 1, _ => rfl
  | 2, _ => rfl
  | 3, _ => rfl
  | 4, _ => rfl
  | q + 5, hq => exact absurd hq (by omega)⟩
theorem gm_307 : Cond.methodLinkNest RX6 46 yX5_init "WrapRuns" ∈ NT := nt_mem 307 (by decide +kernel) rfl
theorem gm_308 : Cond.instanceMethod yX5_init ∈ GT := gt_mem 308 (by decide +kernel) (by decide +kernel)
theorem gm_309 : Cond.code yX5_init cX5_init 1 none ∈ GT := gt_mem 309 (by decide +kernel) (by decide +kernel)
theorem li_X6_46 : LKI RX6 46 yX5_init cX5_init 1 := ⟨Or.inr ⟨_, gm_307⟩, rfl, gm_308, gm_94, gm_309, by decide +kernel⟩
theorem gm_506 : Cond.fieldLink RX6 47 RX6 (TX6 6).2.1 (TX6 6).2.2.1 ∈ GT := gt_mem 506 (by decide +kernel) (by decide +kernel)
theorem ff_X6_47 : FF RX6 47 6 6 := ⟨RX6, TX6, 8, tyX6, tyX6 6, rfl, ti_X6, tyX6_ok, nmX6, by decide, rfl, rfl, gm_506, rfl, tyX6_ok 6 (by decide), fun _ => ⟨rfl, rfl⟩⟩
theorem zk_38 : zk shD shXc [84, 85, 86, 87, 88, 89, 90, 91, 92, 93, 94, 95, 96, 97, 98] = true := by decide +kernel
abbrev zl_38 : List Nat := [84, 85, 86, 87, 88, 89, 90, 91, 92, 93, 94, 95, 96, 97, 98]
theorem gm_333 : Cond.classLink RX6 51 RX4 ∈ GT := gt_mem 333 (by decide +kernel) (by decide +kernel)
theorem gm_334 : Cond.instantiable RX4 2 ∈ GT := gt_mem 334 (by decide +kernel) (by decide +kernel)
theorem nw_X6_51 : NW RX6 51 4 2 ([6, 0], 0, 0) := ⟨RX4, TX4, tyX4, rfl, ti_X4, tyX4_ok, gm_333, gm_334, gm_95, fun j hj a => by
  match j, hj with
  | 0, _ => rfl
  | 1, _ => rfl
  | q + 2, hq => exact absurd hq (by omega)⟩
theorem gm_335 : Cond.methodLinkNest RX6 53 yX4_init "WrapRuns" ∈ NT := nt_mem 335 (by decide +kernel) rfl
theorem gm_336 : Cond.instanceMethod yX4_init ∈ GT := gt_mem 336 (by decide +kernel) (by decide +kernel)
theorem gm_337 : Cond.code yX4_init cX4_init 1 none ∈ GT := gt_mem 337 (by decide +kernel) (by decide +kernel)
theorem li_X6_53 : LKI RX6 53 yX4_init cX4_init 1 := ⟨Or.inr ⟨_, gm_335⟩, rfl, gm_336, gm_95, gm_337, by decide +kernel⟩
theorem gm_507 : Cond.fieldLink RX6 54 RX6 (TX6 7).2.1 (TX6 7).2.2.1 ∈ GT := gt_mem 507 (by decide +kernel) (by decide +kernel)
theorem ff_X6_54 : FF RX6 54 6 7 := ⟨RX6, TX6, 8, tyX6, tyX6 7, rfl, ti_X6, tyX6_ok, nmX6, by decide, rfl, rfl, gm_507, rfl, tyX6_ok 7 (by decide), fun _ => ⟨rfl, rfl⟩⟩
theorem zk_39 : zk shP shXc [99, 100] = true := by decide +kernel
abbrev zl_39 : List Nat := [99, 100]
theorem fl_X6_33 : FL RX6 33 6 4 := ⟨RX6, TX6, 8, tyX6, rfl, ti_X6, tyX6_ok, nmX6, by decide, rfl, Or.inl gm_504⟩
theorem zk_40 : zcs shXc shX [(0, 0), (0, 1), (0, 2), (0, 3), (0, 4), (0, 5), (0, 6), (0, 7)] = true := by decide +kernel
theorem gm_348 : Cond.methodLink RX6 60 yX3_write ∈ GT := gt_mem 348 (by decide +kernel) (by decide +kernel)
theorem gm_351 : Cond.code yX3_write cX3_write 3 none ∈ GT := gt_mem 351 (by decide +kernel) (by decide +kernel)
theorem gm_349 : Cond.instanceMethod yX3_write ∈ GT := gt_mem 349 (by decide +kernel) (by decide +kernel)
theorem gm_350 : Cond.selects RX3 yX3_write yX3_write ∈ GT := gt_mem 350 (by decide +kernel) (by decide +kernel)
theorem lk_X6_60 : LKV RX6 60 RX3 yX3_write cX3_write 3 none 1 := ⟨Or.inl gm_348, gm_349, gm_350, gm_92, gm_351, by decide +kernel⟩
theorem zk_41 : zk shR shX [74, 75, 76] = true := by decide +kernel
theorem zs_41 : zs shX [74, 75, 76] = true := by decide +kernel
abbrev zl_41 : List Nat := [74, 75, 76]
theorem fl_X6_12 : FL RX6 12 6 0 := ⟨RX6, TX6, 8, tyX6, rfl, ti_X6, tyX6_ok, nmX6, by decide, rfl, Or.inl gm_500⟩
theorem gm_404 : Cond.methodLink RX6 64 yX3_readDeal ∈ GT := gt_mem 404 (by decide +kernel) (by decide +kernel)
theorem gm_407 : Cond.code yX3_readDeal cX3_readDeal 3 (some .int) ∈ GT := gt_mem 407 (by decide +kernel) (by decide +kernel)
theorem gm_405 : Cond.instanceMethod yX3_readDeal ∈ GT := gt_mem 405 (by decide +kernel) (by decide +kernel)
theorem gm_406 : Cond.selects RX3 yX3_readDeal yX3_readDeal ∈ GT := gt_mem 406 (by decide +kernel) (by decide +kernel)
theorem lk_X6_64 : LKV RX6 64 RX3 yX3_readDeal cX3_readDeal 3 (some .int) 1 := ⟨Or.inl gm_404, gm_405, gm_406, gm_92, gm_407, by decide +kernel⟩
theorem zk_42 : zk shRM shX [74, 75, 76, 1, 2, 3, 4, 5] = true := by decide +kernel
theorem zs_42 : zs shX [74, 75, 76, 1, 2, 3, 4, 5] = true := by decide +kernel
abbrev zl_42 : List Nat := [74, 75, 76, 1, 2, 3, 4, 5]
theorem gm_496 : Cond.methodLink RX6 68 yX3_shorten ∈ GT := gt_mem 496 (by decide +kernel) (by decide +kernel)
theorem gm_499 : Cond.code yX3_shorten cX3_shorten 2 none ∈ GT := gt_mem 499 (by decide +kernel) (by decide +kernel)
theorem gm_497 : Cond.instanceMethod yX3_shorten ∈ GT := gt_mem 497 (by decide +kernel) (by decide +kernel)
theorem gm_498 : Cond.selects RX3 yX3_shorten yX3_shorten ∈ GT := gt_mem 498 (by decide +kernel) (by decide +kernel)
theorem lk_X6_68 : LKV RX6 68 RX3 yX3_shorten cX3_shorten 2 none 1 := ⟨Or.inl gm_496, gm_497, gm_498, gm_92, gm_499, by decide +kernel⟩
theorem fl_X6_16 : FL RX6 16 6 1 := ⟨RX6, TX6, 8, tyX6, rfl, ti_X6, tyX6_ok, nmX6, by decide, rfl, Or.inl gm_501⟩
theorem zk_43 : zk shRM shX [74, 75, 76, 6, 7, 8, 9, 10] = true := by decide +kernel
theorem zs_43 : zs shX [74, 75, 76, 6, 7, 8, 9, 10] = true := by decide +kernel
abbrev zl_43 : List Nat := [74, 75, 76, 6, 7, 8, 9, 10]
theorem gm_529 : Cond.methodLink RX6 72 yX3_isAtEnd ∈ GT := gt_mem 529 (by decide +kernel) (by decide +kernel)
theorem gm_532 : Cond.code yX3_isAtEnd cX3_isAtEnd 1 (some .boolean) ∈ GT := gt_mem 532 (by decide +kernel) (by decide +kernel)
theorem gm_530 : Cond.instanceMethod yX3_isAtEnd ∈ GT := gt_mem 530 (by decide +kernel) (by decide +kernel)
theorem gm_531 : Cond.selects RX3 yX3_isAtEnd yX3_isAtEnd ∈ GT := gt_mem 531 (by decide +kernel) (by decide +kernel)
theorem lk_X6_72 : LKV RX6 72 RX3 yX3_isAtEnd cX3_isAtEnd 1 (some .boolean) 0 := ⟨Or.inl gm_529, gm_530, gm_531, gm_92, gm_532, by decide +kernel⟩
theorem fl_X6_47 : FL RX6 47 6 6 := ⟨RX6, TX6, 8, tyX6, rfl, ti_X6, tyX6_ok, nmX6, by decide, rfl, Or.inl gm_506⟩
theorem gm_533 : Cond.methodLink RX6 76 yX3_readMove ∈ GT := gt_mem 533 (by decide +kernel) (by decide +kernel)
theorem gm_536 : Cond.code yX3_readMove cX3_readMove 6 (some .int) ∈ GT := gt_mem 536 (by decide +kernel) (by decide +kernel)
theorem gm_534 : Cond.instanceMethod yX3_readMove ∈ GT := gt_mem 534 (by decide +kernel) (by decide +kernel)
theorem gm_535 : Cond.selects RX3 yX3_readMove yX3_readMove ∈ GT := gt_mem 535 (by decide +kernel) (by decide +kernel)
theorem lk_X6_76 : LKV RX6 76 RX3 yX3_readMove cX3_readMove 6 (some .int) 2 := ⟨Or.inl gm_533, gm_534, gm_535, gm_92, gm_536, by decide +kernel⟩
theorem zk_44 : zk shRMD shX [74, 75, 76, 6, 7, 8, 9, 10, 84, 85, 86, 87, 88, 89, 90, 91, 92, 93, 94, 95, 96, 97, 98] = true := by decide +kernel
theorem zs_44 : zs shX [74, 75, 76, 6, 7, 8, 9, 10, 84, 85, 86, 87, 88, 89, 90, 91, 92, 93, 94, 95, 96, 97, 98] = true := by decide +kernel
abbrev zl_44 : List Nat := [74, 75, 76, 6, 7, 8, 9, 10, 84, 85, 86, 87, 88, 89, 90, 91, 92, 93, 94, 95, 96, 97, 98]
theorem fl_X6_22 : FL RX6 22 6 2 := ⟨RX6, TX6, 8, tyX6, rfl, ti_X6, tyX6_ok, nmX6, by decide, rfl, Or.inl gm_502⟩
theorem gm_713 : Cond.methodLink RX6 80 yX0_push ∈ GT := gt_mem 713 (by decide +kernel) (by decide +kernel)
theorem gm_716 : Cond.code yX0_push cX0_push 4 none ∈ GT := gt_mem 716 (by decide +kernel) (by decide +kernel)
theorem gm_714 : Cond.instanceMethod yX0_push ∈ GT := gt_mem 714 (by decide +kernel) (by decide +kernel)
theorem gm_715 : Cond.selects RX0 yX0_push yX0_push ∈ GT := gt_mem 715 (by decide +kernel) (by decide +kernel)
theorem lk_X6_80 : LKV RX6 80 RX0 yX0_push cX0_push 4 none 1 := ⟨Or.inl gm_713, gm_714, gm_715, gm_91, gm_716, by decide +kernel⟩
theorem zk_45 : zk shHM shX [11, 12, 13, 14, 15, 16, 17, 18, 19, 20, 21, 22, 23, 24, 25, 26, 27, 28, 29, 30, 31, 32, 33, 34, 35, 36, 37, 38, 39, 40, 41, 42, 43, 44, 45, 46, 47, 48, 49, 50, 51, 52, 53, 54, 55, 56, 57, 58, 59, 60, 61, 62, 1, 2, 3, 4, 5] = true := by decide +kernel
theorem zs_45 : zs shX [11, 12, 13, 14, 15, 16, 17, 18, 19, 20, 21, 22, 23, 24, 25, 26, 27, 28, 29, 30, 31, 32, 33, 34, 35, 36, 37, 38, 39, 40, 41, 42, 43, 44, 45, 46, 47, 48, 49, 50, 51, 52, 53, 54, 55, 56, 57, 58, 59, 60, 61, 62, 1, 2, 3, 4, 5] = true := by decide +kernel
abbrev zl_45 : List Nat := [11, 12, 13, 14, 15, 16, 17, 18, 19, 20, 21, 22, 23, 24, 25, 26, 27, 28, 29, 30, 31, 32, 33, 34, 35, 36, 37, 38, 39, 40, 41, 42, 43, 44, 45, 46, 47, 48, 49, 50, 51, 52, 53, 54, 55, 56, 57, 58, 59, 60, 61, 62, 1, 2, 3, 4, 5]
theorem gm_724 : Cond.methodLink RX6 84 yX2_copyFrom ∈ GT := gt_mem 724 (by decide +kernel) (by decide +kernel)
theorem lk_X6_84 : LKV RX6 84 RX2 yX2_copyFrom cX2_copyFrom 2 none 1 := ⟨Or.inl gm_724, gm_719, gm_720, gm_90, gm_721, by decide +kernel⟩
theorem zk_46 : zk shMM shX [1, 2, 3, 4, 5, 6, 7, 8, 9, 10] = true := by decide +kernel
theorem zs_46 : zs shX [1, 2, 3, 4, 5, 6, 7, 8, 9, 10] = true := by decide +kernel
abbrev zl_46 : List Nat := [1, 2, 3, 4, 5, 6, 7, 8, 9, 10]
theorem gm_125 : Cond.fieldLinkNest RX6 87 RX2 (TX2 0).2.1 (TX2 0).2.2.1 "WrapRuns" ∈ NT := nt_mem 125 (by decide +kernel) rfl
theorem fl_X6_87 : FL RX6 87 2 0 := ⟨RX2, TX2, 17, tyX2, rfl, ti_X2, tyX2_ok, nmX2, by decide, rfl, Or.inr ⟨_, gm_125⟩⟩
theorem gm_729 : Cond.methodLink RX6 91 yX2_reasonAgainstDraw ∈ GT := gt_mem 729 (by decide +kernel) (by decide +kernel)
theorem lk_X6_91 : LKV RX6 91 RX2 yX2_reasonAgainstDraw cX2_reasonAgainstDraw 1 (some .int) 0 := ⟨Or.inl gm_729, gm_702, gm_703, gm_90, gm_704, by decide +kernel⟩
theorem zk_47 : zk shM shX [1, 2, 3, 4, 5] = true := by decide +kernel
theorem zs_47 : zs shX [1, 2, 3, 4, 5] = true := by decide +kernel
abbrev zl_47 : List Nat := [1, 2, 3, 4, 5]
theorem gm_730 : Cond.methodLink RX6 95 yX2_takeCard ∈ GT := gt_mem 730 (by decide +kernel) (by decide +kernel)
theorem lk_X6_95 : LKV RX6 95 RX2 yX2_takeCard cX2_takeCard 3 (some .int) 1 := ⟨Or.inl gm_730, gm_706, gm_707, gm_90, gm_708, by decide +kernel⟩
theorem gm_765 : Cond.methodLink RX6 219 yX2_handOf ∈ GT := gt_mem 765 (by decide +kernel) (by decide +kernel)
theorem lk_X6_219 : LKV RX6 219 RX2 yX2_handOf cX2_handOf 2 (some .long) 1 := ⟨Or.inl gm_765, gm_551, gm_552, gm_90, gm_553, by decide +kernel⟩
theorem gm_766 : Cond.methodLink RX6 271 yX6_has ∈ GT := gt_mem 766 (by decide +kernel) (by decide +kernel)
theorem lk_X6_271 : LKS RX6 271 yX6_has cX6_has 3 (some .boolean) 2 := ⟨Or.inl gm_766, gm_461, gm_89, gm_462, by decide +kernel⟩
theorem zk_48 : zk shN shX [] = true := by decide +kernel
theorem zs_48 : zs shX [] = true := by decide +kernel
abbrev zl_48 : List Nat := []
theorem xa_X6_322 : ∀ w ∈ (Bundle.ownAtomsX RX6 322 "java/util/NoSuchElementException" 13 prog_26_method_4_code ["java/lang/RuntimeException", "java/lang/Exception"]).filter vx_no, w ∈ GT ∨ w ∈ NT := gn_ws [104, 857, 866, 870, 873, 875, 858, 859, 116, 117, 860, 865, 871, 891, 847, 892, 849, 893, 851, 861, 863, 853, 887, 888, 890, 853, 878, 879, 880, 881, 839, 881, 882, 883, 884, 841, 884, 885, 886, 887, 843, 877, 836, 837, 844, 845, 846, 848, 850, 852, 856, 855, 854] (by decide +kernel) (by decide +kernel)
theorem gm_835 : Cond.classLink RX6 318 "java/util/NoSuchElementException" ∈ GT := gt_mem 835 (by decide +kernel) (by decide +kernel)
theorem gm_107 : Cond.initialized "java/util/NoSuchElementException" ∈ GT := gt_mem 107 (by decide +kernel) (by decide +kernel)
theorem gm_139 : Cond.fieldLinkNest RX6 99 RX2 (TX2 5).2.1 (TX2 5).2.2.1 "WrapRuns" ∈ NT := nt_mem 139 (by decide +kernel) rfl
theorem fl_X6_99 : FL RX6 99 2 5 := ⟨RX2, TX2, 17, tyX2, rfl, ti_X2, tyX2_ok, nmX2, by decide, rfl, Or.inr ⟨_, gm_139⟩⟩
theorem gm_831 : Cond.methodLink RX6 102 yX6_requireHeld ∈ GT := gt_mem 831 (by decide +kernel) (by decide +kernel)
theorem gm_834 : Cond.code yX6_requireHeld cX6_requireHeld 3 none ∈ GT := gt_mem 834 (by decide +kernel) (by decide +kernel)
theorem gm_833 : Cond.instanceMethod yX6_requireHeld ∈ GT := gt_mem 833 (by decide +kernel) (by decide +kernel)
theorem gm_24 : Cond.selects RX6 yX6_requireHeld yX6_requireHeld ∈ GT := gt_mem 24 (by decide +kernel) (by decide +kernel)
theorem lk_X6_102 : LKV RX6 102 RX6 yX6_requireHeld cX6_requireHeld 3 none 2 := ⟨Or.inl gm_831, gm_833, gm_24, gm_89, gm_834, by decide +kernel⟩
theorem gm_902 : Cond.methodLink RX6 106 yX2_reasonAgainstDrop ∈ GT := gt_mem 902 (by decide +kernel) (by decide +kernel)
theorem lk_X6_106 : LKV RX6 106 RX2 yX2_reasonAgainstDrop cX2_reasonAgainstDrop 2 (some .int) 1 := ⟨Or.inl gm_902, gm_558, gm_559, gm_90, gm_560, by decide +kernel⟩
theorem gm_903 : Cond.methodLink RX6 110 yX2_endTurn ∈ GT := gt_mem 903 (by decide +kernel) (by decide +kernel)
theorem lk_X6_110 : LKV RX6 110 RX2 yX2_endTurn cX2_endTurn 2 none 1 := ⟨Or.inl gm_903, gm_562, gm_563, gm_90, gm_564, by decide +kernel⟩
theorem gm_797 : Cond.methodLink RX6 113 yX2_stockCount ∈ GT := gt_mem 797 (by decide +kernel) (by decide +kernel)
theorem lk_X6_113 : LKV RX6 113 RX2 yX2_stockCount cX2_stockCount 1 (some .int) 0 := ⟨Or.inl gm_797, gm_571, gm_572, gm_90, gm_573, by decide +kernel⟩
theorem gm_767 : Cond.methodLink RX6 116 yX2_handWithout ∈ GT := gt_mem 767 (by decide +kernel) (by decide +kernel)
theorem lk_X6_116 : LKV RX6 116 RX2 yX2_handWithout cX2_handWithout 2 (some .long) 1 := ⟨Or.inl gm_767, gm_575, gm_576, gm_90, gm_577, by decide +kernel⟩
theorem gm_911 : Cond.methodLink RX6 120 yX2_otherHand ∈ GT := gt_mem 911 (by decide +kernel) (by decide +kernel)
theorem lk_X6_120 : LKV RX6 120 RX2 yX2_otherHand cX2_otherHand 1 (some .long) 0 := ⟨Or.inl gm_911, gm_580, gm_581, gm_90, gm_582, by decide +kernel⟩
theorem gm_912 : Cond.methodLink RX6 124 yX5_settle ∈ GT := gt_mem 912 (by decide +kernel) (by decide +kernel)
theorem lk_X6_124 : LKV RX6 124 RX5 yX5_settle cX5_settle 9 none 2 := ⟨Or.inl gm_912, gm_584, gm_585, gm_94, gm_586, by decide +kernel⟩
theorem zk_49 : zk shD shX [84, 85, 86, 87, 88, 89, 90, 91, 92, 93, 94, 95, 96, 97, 98] = true := by decide +kernel
theorem zs_49 : zs shX [84, 85, 86, 87, 88, 89, 90, 91, 92, 93, 94, 95, 96, 97, 98] = true := by decide +kernel
abbrev zl_49 : List Nat := [84, 85, 86, 87, 88, 89, 90, 91, 92, 93, 94, 95, 96, 97, 98]
theorem gm_316 : Cond.fieldLinkNest RX6 128 RX5 (TX5 2).2.1 (TX5 2).2.2.1 "WrapRuns" ∈ NT := nt_mem 316 (by decide +kernel) rfl
theorem fl_X6_128 : FL RX6 128 5 2 := ⟨RX5, TX5, 5, tyX5, rfl, ti_X5, tyX5_ok, nmX5, by decide, rfl, Or.inr ⟨_, gm_316⟩⟩
theorem gm_913 : Cond.methodLink RX6 131 yX2_reasonAgainstKnock ∈ GT := gt_mem 913 (by decide +kernel) (by decide +kernel)
theorem lk_X6_131 : LKV RX6 131 RX2 yX2_reasonAgainstKnock cX2_reasonAgainstKnock 4 (some .int) 2 := ⟨Or.inl gm_913, gm_672, gm_673, gm_90, gm_674, by decide +kernel⟩
theorem gm_914 : Cond.methodLink RX6 135 yX5_gain ∈ GT := gt_mem 914 (by decide +kernel) (by decide +kernel)
theorem lk_X6_135 : LKV RX6 135 RX5 yX5_gain cX5_gain 1 (some .int) 0 := ⟨Or.inl gm_914, gm_677, gm_678, gm_94, gm_679, by decide +kernel⟩
theorem gm_915 : Cond.methodLink RX6 138 yX2_endRound ∈ GT := gt_mem 915 (by decide +kernel) (by decide +kernel)
theorem lk_X6_138 : LKV RX6 138 RX2 yX2_endRound cX2_endRound 3 none 2 := ⟨Or.inl gm_915, gm_681, gm_682, gm_90, gm_683, by decide +kernel⟩
theorem gm_735 : Cond.methodLink RX6 141 yX2_reasonAgainstDeal ∈ GT := gt_mem 735 (by decide +kernel) (by decide +kernel)
theorem lk_X6_141 : LKV RX6 141 RX2 yX2_reasonAgainstDeal cX2_reasonAgainstDeal 1 (some .int) 0 := ⟨Or.inl gm_735, gm_688, gm_689, gm_90, gm_690, by decide +kernel⟩
theorem gm_736 : Cond.methodLink RX6 144 yX2_beginNextRound ∈ GT := gt_mem 736 (by decide +kernel) (by decide +kernel)
theorem lk_X6_144 : LKV RX6 144 RX2 yX2_beginNextRound cX2_beginNextRound 1 none 0 := ⟨Or.inl gm_736, gm_696, gm_697, gm_90, gm_698, by decide +kernel⟩
theorem gm_137 : Cond.fieldLinkNest RX6 147 RX2 (TX2 4).2.1 (TX2 4).2.2.1 "WrapRuns" ∈ NT := nt_mem 137 (by decide +kernel) rfl
theorem fl_X6_147 : FL RX6 147 2 4 := ⟨RX2, TX2, 17, tyX2, rfl, ti_X2, tyX2_ok, nmX2, by decide, rfl, Or.inr ⟨_, gm_137⟩⟩
theorem xa_X6_317 : ∀ w ∈ (Bundle.ownAtomsX RX6 317 "java/lang/IllegalArgumentException" 7 prog_14_method_2_code ["java/lang/RuntimeException", "java/lang/Exception"]).filter vx_no, w ∈ GT ∨ w ∈ NT := gn_ws [104, 857, 866, 870, 873, 875, 858, 859, 116, 117, 860, 865, 871, 891, 847, 892, 849, 893, 851, 861, 863, 853, 887, 888, 890, 853, 941, 942, 943, 881, 839, 881, 882, 883, 884, 841, 884, 885, 886, 887, 843, 940, 931, 932, 933, 868, 934, 935, 936, 937, 856, 855, 938] (by decide +kernel) (by decide +kernel)
theorem gm_930 : Cond.classLink RX6 313 "java/lang/IllegalArgumentException" ∈ GT := gt_mem 930 (by decide +kernel) (by decide +kernel)
theorem gm_108 : Cond.initialized "java/lang/IllegalArgumentException" ∈ GT := gt_mem 108 (by decide +kernel) (by decide +kernel)
theorem gm_924 : Cond.methodLink RX6 150 yX6_isWithin ∈ GT := gt_mem 924 (by decide +kernel) (by decide +kernel)
theorem gm_926 : Cond.code yX6_isWithin cX6_isWithin 3 (some .boolean) ∈ GT := gt_mem 926 (by decide +kernel) (by decide +kernel)
theorem gm_925 : Cond.static yX6_isWithin ∈ GT := gt_mem 925 (by decide +kernel) (by decide +kernel)
theorem lk_X6_150 : LKS RX6 150 yX6_isWithin cX6_isWithin 3 (some .boolean) 3 := ⟨Or.inl gm_924, gm_925, gm_89, gm_926, by decide +kernel⟩
theorem gm_927 : Cond.methodLink RX6 154 yX6_require ∈ GT := gt_mem 927 (by decide +kernel) (by decide +kernel)
theorem gm_929 : Cond.code yX6_require cX6_require 1 none ∈ GT := gt_mem 929 (by decide +kernel) (by decide +kernel)
theorem gm_928 : Cond.static yX6_require ∈ GT := gt_mem 928 (by decide +kernel) (by decide +kernel)
theorem lk_X6_154 : LKS RX6 154 yX6_require cX6_require 1 none 1 := ⟨Or.inl gm_927, gm_928, gm_89, gm_929, by decide +kernel⟩
theorem gm_128 : Cond.fieldLinkNest RX6 161 RX2 (TX2 1).2.1 (TX2 1).2.2.1 "WrapRuns" ∈ NT := nt_mem 128 (by decide +kernel) rfl
theorem fl_X6_161 : FL RX6 161 2 1 := ⟨RX2, TX2, 17, tyX2, rfl, ti_X2, tyX2_ok, nmX2, by decide, rfl, Or.inr ⟨_, gm_128⟩⟩
theorem fp_X6_161 : FP RX6 161 2 1 .int := ⟨RX2, TX2, 17, tyX2, rfl, ti_X2, tyX2_ok, nmX2, by decide, rfl, Or.inr ⟨_, gm_128⟩, rfl, by decide +kernel⟩
theorem gm_131 : Cond.fieldLinkNest RX6 158 RX2 (TX2 2).2.1 (TX2 2).2.2.1 "WrapRuns" ∈ NT := nt_mem 131 (by decide +kernel) rfl
theorem fp_X6_158 : FP RX6 158 2 2 .int := ⟨RX2, TX2, 17, tyX2, rfl, ti_X2, tyX2_ok, nmX2, by decide, rfl, Or.inr ⟨_, gm_131⟩, rfl, by decide +kernel⟩
theorem fl_X6_158 : FL RX6 158 2 2 := ⟨RX2, TX2, 17, tyX2, rfl, ti_X2, tyX2_ok, nmX2, by decide, rfl, Or.inr ⟨_, gm_131⟩⟩
theorem gm_741 : Cond.methodLink RX6 164 yX0_pop ∈ GT := gt_mem 741 (by decide +kernel) (by decide +kernel)
theorem gm_744 : Cond.code yX0_pop cX0_pop 4 (some .boolean) ∈ GT := gt_mem 744 (by decide +kernel) (by decide +kernel)
theorem gm_742 : Cond.instanceMethod yX0_pop ∈ GT := gt_mem 742 (by decide +kernel) (by decide +kernel)
theorem gm_743 : Cond.selects RX0 yX0_pop yX0_pop ∈ GT := gt_mem 743 (by decide +kernel) (by decide +kernel)
theorem lk_X6_164 : LKV RX6 164 RX0 yX0_pop cX0_pop 4 (some .boolean) 1 := ⟨Or.inl gm_741, gm_742, gm_743, gm_91, gm_744, by decide +kernel⟩
theorem gm_207 : Cond.fieldLinkNest RX6 168 RX0 (TX0 2).2.1 (TX0 2).2.2.1 "WrapRuns" ∈ NT := nt_mem 207 (by decide +kernel) rfl
theorem fl_X6_168 : FL RX6 168 0 2 := ⟨RX0, TX0, 3, tyX0, rfl, ti_X0, tyX0_ok, nmX0, by decide, rfl, Or.inr ⟨_, gm_207⟩⟩
theorem fl_X6_26 : FL RX6 26 6 3 := ⟨RX6, TX6, 8, tyX6, rfl, ti_X6, tyX6_ok, nmX6, by decide, rfl, Or.inl gm_503⟩
abbrev zl_50 (n : Nat) : List Nat := [64 + 5 * n, 65 + 5 * n, 66 + 5 * n, 67 + 5 * n, 68 + 5 * n]
theorem zk_50 : ∀ n : Nat, n < 2 → zq (zl_50 n) (64 + 5 * n) = some 0 ∧ zk shM shX (zl_50 n) = true ∧ zno shX (zl_50 n) 63 n = true := by decide +kernel
abbrev zl_51 (n : Nat) : List Nat := [64 + 5 * n, 65 + 5 * n, 66 + 5 * n, 67 + 5 * n, 68 + 5 * n, 1, 2, 3, 4, 5]
theorem zk_51 : ∀ n : Nat, n < 2 → zk shMM shX (zl_51 n) = true ∧ zsg shX (zl_51 n) (63, n) = true ∧ (shX[64 + 5 * n]?.map fun q => (q.1, q.2.2.2)) = some (12, some (63, n)) := by decide +kernel
abbrev zl_52 (n : Nat) : List Nat := [1, 2, 3, 4, 5, 64 + 5 * n, 65 + 5 * n, 66 + 5 * n, 67 + 5 * n, 68 + 5 * n]
theorem zk_52 : ∀ n : Nat, n < 2 → zk shMM shX (zl_52 n) = true ∧ zsg shX (zl_52 n) (63, n) = true ∧ (shX[64 + 5 * n]?.map fun q => (q.1, q.2.2.2)) = some (12, some (63, n)) := by decide +kernel
theorem gm_977 : Cond.methodLink RX6 177 yX0_forget ∈ GT := gt_mem 977 (by decide +kernel) (by decide +kernel)
theorem gm_980 : Cond.code yX0_forget cX0_forget 1 none ∈ GT := gt_mem 980 (by decide +kernel) (by decide +kernel)
theorem gm_978 : Cond.instanceMethod yX0_forget ∈ GT := gt_mem 978 (by decide +kernel) (by decide +kernel)
theorem gm_979 : Cond.selects RX0 yX0_forget yX0_forget ∈ GT := gt_mem 979 (by decide +kernel) (by decide +kernel)
theorem lk_X6_177 : LKV RX6 177 RX0 yX0_forget cX0_forget 1 none 0 := ⟨Or.inl gm_977, gm_978, gm_979, gm_91, gm_980, by decide +kernel⟩
theorem zk_53 : zk shH shX [11, 12, 13, 14, 15, 16, 17, 18, 19, 20, 21, 22, 23, 24, 25, 26, 27, 28, 29, 30, 31, 32, 33, 34, 35, 36, 37, 38, 39, 40, 41, 42, 43, 44, 45, 46, 47, 48, 49, 50, 51, 52, 53, 54, 55, 56, 57, 58, 59, 60, 61, 62] = true := by decide +kernel
theorem zs_53 : zs shX [11, 12, 13, 14, 15, 16, 17, 18, 19, 20, 21, 22, 23, 24, 25, 26, 27, 28, 29, 30, 31, 32, 33, 34, 35, 36, 37, 38, 39, 40, 41, 42, 43, 44, 45, 46, 47, 48, 49, 50, 51, 52, 53, 54, 55, 56, 57, 58, 59, 60, 61, 62] = true := by decide +kernel
abbrev zl_53 : List Nat := [11, 12, 13, 14, 15, 16, 17, 18, 19, 20, 21, 22, 23, 24, 25, 26, 27, 28, 29, 30, 31, 32, 33, 34, 35, 36, 37, 38, 39, 40, 41, 42, 43, 44, 45, 46, 47, 48, 49, 50, 51, 52, 53, 54, 55, 56, 57, 58, 59, 60, 61, 62]
theorem xa_X6_175 : ∀ w ∈ (Bundle.ownAtomsX RX6 175 "java/lang/IllegalStateException" 7 prog_15_method_2_code ["java/lang/RuntimeException", "java/lang/Exception"]).filter vx_no, w ∈ GT ∨ w ∈ NT := gn_ws [104, 857, 866, 870, 873, 875, 858, 859, 116, 117, 860, 865, 871, 891, 847, 892, 849, 893, 851, 861, 863, 853, 887, 888, 890, 853, 972, 973, 974, 881, 839, 881, 882, 883, 884, 841, 884, 885, 886, 887, 843, 971, 962, 963, 964, 869, 965, 966, 967, 968, 856, 855, 969] (by decide +kernel) (by decide +kernel)
theorem gm_961 : Cond.classLink RX6 171 "java/lang/IllegalStateException" ∈ GT := gt_mem 961 (by decide +kernel) (by decide +kernel)
theorem gm_109 : Cond.initialized "java/lang/IllegalStateException" ∈ GT := gt_mem 109 (by decide +kernel) (by decide +kernel)
theorem gm_223 : Cond.fieldLinkNest RX6 180 RX3 (TX3 1).2.1 (TX3 1).2.2.1 "WrapRuns" ∈ NT := nt_mem 223 (by decide +kernel) rfl
theorem fl_X6_180 : FL RX6 180 3 1 := ⟨RX3, TX3, 8, tyX3, rfl, ti_X3, tyX3_ok, nmX3, by decide, rfl, Or.inr ⟨_, gm_223⟩⟩
theorem gm_749 : Cond.methodLink RX6 183 yX3_writeFour ∈ GT := gt_mem 749 (by decide +kernel) (by decide +kernel)
theorem gm_752 : Cond.code yX3_writeFour cX3_writeFour 3 none ∈ GT := gt_mem 752 (by decide +kernel) (by decide +kernel)
theorem gm_750 : Cond.instanceMethod yX3_writeFour ∈ GT := gt_mem 750 (by decide +kernel) (by decide +kernel)
theorem gm_751 : Cond.selects RX3 yX3_writeFour yX3_writeFour ∈ GT := gt_mem 751 (by decide +kernel) (by decide +kernel)
theorem lk_X6_183 : LKV RX6 183 RX3 yX3_writeFour cX3_writeFour 3 none 1 := ⟨Or.inl gm_749, gm_750, gm_751, gm_92, gm_752, by decide +kernel⟩
theorem gm_142 : Cond.fieldLinkNest RX6 186 RX2 (TX2 6).2.1 (TX2 6).2.2.1 "WrapRuns" ∈ NT := nt_mem 142 (by decide +kernel) rfl
theorem fl_X6_186 : FL RX6 186 2 6 := ⟨RX2, TX2, 17, tyX2, rfl, ti_X2, tyX2_ok, nmX2, by decide, rfl, Or.inr ⟨_, gm_142⟩⟩
theorem gm_146 : Cond.fieldLinkNest RX6 190 RX2 (TX2 8).2.1 (TX2 8).2.2.1 "WrapRuns" ∈ NT := nt_mem 146 (by decide +kernel) rfl
theorem fl_X6_190 : FL RX6 190 2 8 := ⟨RX2, TX2, 17, tyX2, rfl, ti_X2, tyX2_ok, nmX2, by decide, rfl, Or.inr ⟨_, gm_146⟩⟩
theorem gm_995 : Cond.methodLink RX6 193 yX2_isMatchOver ∈ GT := gt_mem 995 (by decide +kernel) (by decide +kernel)
theorem lk_X6_193 : LKV RX6 193 RX2 yX2_isMatchOver cX2_isMatchOver 1 (some .boolean) 0 := ⟨Or.inl gm_995, gm_692, gm_693, gm_90, gm_694, by decide +kernel⟩
theorem gm_158 : Cond.fieldLinkNest RX6 196 RX2 (TX2 16).2.1 (TX2 16).2.2.1 "WrapRuns" ∈ NT := nt_mem 158 (by decide +kernel) rfl
theorem fl_X6_196 : FL RX6 196 2 16 := ⟨RX2, TX2, 17, tyX2, rfl, ti_X2, tyX2_ok, nmX2, by decide, rfl, Or.inr ⟨_, gm_158⟩⟩
theorem gm_773 : Cond.methodLink RX6 199 yX2_topOfPile ∈ GT := gt_mem 773 (by decide +kernel) (by decide +kernel)
theorem lk_X6_199 : LKV RX6 199 RX2 yX2_topOfPile cX2_topOfPile 1 (some .int) 0 := ⟨Or.inl gm_773, gm_710, gm_711, gm_90, gm_712, by decide +kernel⟩
theorem gm_996 : Cond.methodLink RX6 202 yX2_score ∈ GT := gt_mem 996 (by decide +kernel) (by decide +kernel)
theorem gm_999 : Cond.code yX2_score cX2_score 2 (some .int) ∈ GT := gt_mem 999 (by decide +kernel) (by decide +kernel)
theorem gm_997 : Cond.instanceMethod yX2_score ∈ GT := gt_mem 997 (by decide +kernel) (by decide +kernel)
theorem gm_998 : Cond.selects RX2 yX2_score yX2_score ∈ GT := gt_mem 998 (by decide +kernel) (by decide +kernel)
theorem lk_X6_202 : LKV RX6 202 RX2 yX2_score cX2_score 2 (some .int) 1 := ⟨Or.inl gm_996, gm_997, gm_998, gm_90, gm_999, by decide +kernel⟩
theorem gm_148 : Cond.fieldLinkNest RX6 205 RX2 (TX2 9).2.1 (TX2 9).2.2.1 "WrapRuns" ∈ NT := nt_mem 148 (by decide +kernel) rfl
theorem fl_X6_205 : FL RX6 205 2 9 := ⟨RX2, TX2, 17, tyX2, rfl, ti_X2, tyX2_ok, nmX2, by decide, rfl, Or.inr ⟨_, gm_148⟩⟩
theorem gm_150 : Cond.fieldLinkNest RX6 208 RX2 (TX2 10).2.1 (TX2 10).2.2.1 "WrapRuns" ∈ NT := nt_mem 150 (by decide +kernel) rfl
theorem fl_X6_208 : FL RX6 208 2 10 := ⟨RX2, TX2, 17, tyX2, rfl, ti_X2, tyX2_ok, nmX2, by decide, rfl, Or.inr ⟨_, gm_150⟩⟩
theorem gm_135 : Cond.fieldLinkNest RX6 211 RX2 (TX2 3).2.1 (TX2 3).2.2.1 "WrapRuns" ∈ NT := nt_mem 135 (by decide +kernel) rfl
theorem fl_X6_211 : FL RX6 211 2 3 := ⟨RX2, TX2, 17, tyX2, rfl, ti_X2, tyX2_ok, nmX2, by decide, rfl, Or.inr ⟨_, gm_135⟩⟩
theorem gm_1007 : Cond.methodLink RX6 215 yX6_isPlayer ∈ GT := gt_mem 1007 (by decide +kernel) (by decide +kernel)
theorem gm_1009 : Cond.code yX6_isPlayer cX6_isPlayer 1 (some .boolean) ∈ GT := gt_mem 1009 (by decide +kernel) (by decide +kernel)
theorem gm_1008 : Cond.static yX6_isPlayer ∈ GT := gt_mem 1008 (by decide +kernel) (by decide +kernel)
theorem lk_X6_215 : LKS RX6 215 yX6_isPlayer cX6_isPlayer 1 (some .boolean) 1 := ⟨Or.inl gm_1007, gm_1008, gm_89, gm_1009, by decide +kernel⟩
theorem fl_X6_40 : FL RX6 40 6 5 := ⟨RX6, TX6, 8, tyX6, rfl, ti_X6, tyX6_ok, nmX6, by decide, rfl, Or.inl gm_505⟩
theorem gm_768 : Cond.methodLink RX6 222 yX1_lay ∈ GT := gt_mem 768 (by decide +kernel) (by decide +kernel)
theorem lk_X6_222 : LKV RX6 222 RX1 yX1_lay cX1_lay 4 none 1 := ⟨Or.inl gm_768, gm_588, gm_589, gm_93, gm_590, by decide +kernel⟩
theorem zk_54 : zk shL shX [77, 78, 79, 80, 81, 82, 83] = true := by decide +kernel
theorem zs_54 : zs shX [77, 78, 79, 80, 81, 82, 83] = true := by decide +kernel
abbrev zl_54 : List Nat := [77, 78, 79, 80, 81, 82, 83]
theorem gm_272 : Cond.fieldLinkNest RX6 232 RX1 (TX1 10).2.1 (TX1 10).2.2.1 "WrapRuns" ∈ NT := nt_mem 272 (by decide +kernel) rfl
theorem fl_X6_232 : FL RX6 232 1 10 := ⟨RX1, TX1, 14, tyX1, rfl, ti_X1, tyX1_ok, nmX1, by decide, rfl, Or.inr ⟨_, gm_272⟩⟩
theorem gm_264 : Cond.fieldLinkNest RX6 235 RX1 (TX1 7).2.1 (TX1 7).2.2.1 "WrapRuns" ∈ NT := nt_mem 264 (by decide +kernel) rfl
theorem fl_X6_235 : FL RX6 235 1 7 := ⟨RX1, TX1, 14, tyX1, rfl, ti_X1, tyX1_ok, nmX1, by decide, rfl, Or.inr ⟨_, gm_264⟩⟩
theorem gm_269 : Cond.fieldLinkNest RX6 238 RX1 (TX1 9).2.1 (TX1 9).2.2.1 "WrapRuns" ∈ NT := nt_mem 269 (by decide +kernel) rfl
theorem fl_X6_238 : FL RX6 238 1 9 := ⟨RX1, TX1, 14, tyX1, rfl, ti_X1, tyX1_ok, nmX1, by decide, rfl, Or.inr ⟨_, gm_269⟩⟩
theorem gm_805 : Cond.methodLink RX6 241 yX1_countKind ∈ GT := gt_mem 805 (by decide +kernel) (by decide +kernel)
theorem gm_808 : Cond.code yX1_countKind cX1_countKind 4 (some .int) ∈ GT := gt_mem 808 (by decide +kernel) (by decide +kernel)
theorem gm_806 : Cond.instanceMethod yX1_countKind ∈ GT := gt_mem 806 (by decide +kernel) (by decide +kernel)
theorem gm_807 : Cond.selects RX1 yX1_countKind yX1_countKind ∈ GT := gt_mem 807 (by decide +kernel) (by decide +kernel)
theorem lk_X6_241 : LKV RX6 241 RX1 yX1_countKind cX1_countKind 4 (some .int) 1 := ⟨Or.inl gm_805, gm_806, gm_807, gm_93, gm_808, by decide +kernel⟩
theorem gm_804 : Cond.methodLink RX6 244 yX6_pointsOf ∈ GT := gt_mem 804 (by decide +kernel) (by decide +kernel)
theorem lk_X6_244 : LKS RX6 244 yX6_pointsOf cX6_pointsOf 6 (some .int) 1 := ⟨Or.inl gm_804, gm_624, gm_89, gm_625, by decide +kernel⟩
theorem gm_1010 : Cond.methodLink RX6 247 yX1_countWrapped ∈ GT := gt_mem 1010 (by decide +kernel) (by decide +kernel)
theorem gm_1013 : Cond.code yX1_countWrapped cX1_countWrapped 6 (some .int) ∈ GT := gt_mem 1013 (by decide +kernel) (by decide +kernel)
theorem gm_1011 : Cond.instanceMethod yX1_countWrapped ∈ GT := gt_mem 1011 (by decide +kernel) (by decide +kernel)
theorem gm_1012 : Cond.selects RX1 yX1_countWrapped yX1_countWrapped ∈ GT := gt_mem 1012 (by decide +kernel) (by decide +kernel)
theorem lk_X6_247 : LKV RX6 247 RX1 yX1_countWrapped cX1_countWrapped 6 (some .int) 0 := ⟨Or.inl gm_1010, gm_1011, gm_1012, gm_93, gm_1013, by decide +kernel⟩
theorem gm_1032 : Cond.methodLink RX6 253 yX2_placeOf ∈ GT := gt_mem 1032 (by decide +kernel) (by decide +kernel)
theorem gm_1035 : Cond.code yX2_placeOf cX2_placeOf 3 (some .int) ∈ GT := gt_mem 1035 (by decide +kernel) (by decide +kernel)
theorem gm_1033 : Cond.instanceMethod yX2_placeOf ∈ GT := gt_mem 1033 (by decide +kernel) (by decide +kernel)
theorem gm_1034 : Cond.selects RX2 yX2_placeOf yX2_placeOf ∈ GT := gt_mem 1034 (by decide +kernel) (by decide +kernel)
theorem lk_X6_253 : LKV RX6 253 RX2 yX2_placeOf cX2_placeOf 3 (some .int) 1 := ⟨Or.inl gm_1032, gm_1033, gm_1034, gm_90, gm_1035, by decide +kernel⟩
theorem gm_1044 : Cond.methodLink RX6 256 yX1_indexOf ∈ GT := gt_mem 1044 (by decide +kernel) (by decide +kernel)
theorem gm_1047 : Cond.code yX1_indexOf cX1_indexOf 3 (some .int) ∈ GT := gt_mem 1047 (by decide +kernel) (by decide +kernel)
theorem gm_1045 : Cond.instanceMethod yX1_indexOf ∈ GT := gt_mem 1045 (by decide +kernel) (by decide +kernel)
theorem gm_1046 : Cond.selects RX1 yX1_indexOf yX1_indexOf ∈ GT := gt_mem 1046 (by decide +kernel) (by decide +kernel)
theorem lk_X6_256 : LKV RX6 256 RX1 yX1_indexOf cX1_indexOf 3 (some .int) 1 := ⟨Or.inl gm_1044, gm_1045, gm_1046, gm_93, gm_1047, by decide +kernel⟩
theorem gm_1055 : Cond.methodLink RX6 259 yX1_foundAt ∈ GT := gt_mem 1055 (by decide +kernel) (by decide +kernel)
theorem lk_X6_259 : LKV RX6 259 RX1 yX1_foundAt cX1_foundAt 2 (some .long) 1 := ⟨Or.inl gm_1055, gm_651, gm_652, gm_93, gm_653, by decide +kernel⟩
theorem gm_1056 : Cond.methodLink RX6 262 yX6_kindOf ∈ GT := gt_mem 1056 (by decide +kernel) (by decide +kernel)
theorem lk_X6_262 : LKS RX6 262 yX6_kindOf cX6_kindOf 4 (some .int) 1 := ⟨Or.inl gm_1056, gm_656, gm_89, gm_657, by decide +kernel⟩
theorem gm_1057 : Cond.methodLink RX6 265 yX6_firstOf ∈ GT := gt_mem 1057 (by decide +kernel) (by decide +kernel)
theorem lk_X6_265 : LKS RX6 265 yX6_firstOf cX6_firstOf 5 (some .int) 1 := ⟨Or.inl gm_1057, gm_1015, gm_89, gm_1016, by decide +kernel⟩
theorem gm_761 : Cond.methodLink RX6 268 yX2_isDropDue ∈ GT := gt_mem 761 (by decide +kernel) (by decide +kernel)
theorem gm_764 : Cond.code yX2_isDropDue cX2_isDropDue 1 (some .boolean) ∈ GT := gt_mem 764 (by decide +kernel) (by decide +kernel)
theorem gm_762 : Cond.instanceMethod yX2_isDropDue ∈ GT := gt_mem 762 (by decide +kernel) (by decide +kernel)
theorem gm_763 : Cond.selects RX2 yX2_isDropDue yX2_isDropDue ∈ GT := gt_mem 763 (by decide +kernel) (by decide +kernel)
theorem lk_X6_268 : LKV RX6 268 RX2 yX2_isDropDue cX2_isDropDue 1 (some .boolean) 0 := ⟨Or.inl gm_761, gm_762, gm_763, gm_90, gm_764, by decide +kernel⟩
theorem gm_144 : Cond.fieldLinkNest RX6 275 RX2 (TX2 7).2.1 (TX2 7).2.2.1 "WrapRuns" ∈ NT := nt_mem 144 (by decide +kernel) rfl
theorem fl_X6_275 : FL RX6 275 2 7 := ⟨RX2, TX2, 17, tyX2, rfl, ti_X2, tyX2_ok, nmX2, by decide, rfl, Or.inr ⟨_, gm_144⟩⟩
theorem gm_774 : Cond.methodLink RX6 284 yX1_restBehindDrop ∈ GT := gt_mem 774 (by decide +kernel) (by decide +kernel)
theorem gm_777 : Cond.code yX1_restBehindDrop cX1_restBehindDrop 4 (some .int) ∈ GT := gt_mem 777 (by decide +kernel) (by decide +kernel)
theorem gm_775 : Cond.instanceMethod yX1_restBehindDrop ∈ GT := gt_mem 775 (by decide +kernel) (by decide +kernel)
theorem gm_776 : Cond.selects RX1 yX1_restBehindDrop yX1_restBehindDrop ∈ GT := gt_mem 776 (by decide +kernel) (by decide +kernel)
theorem lk_X6_284 : LKV RX6 284 RX1 yX1_restBehindDrop cX1_restBehindDrop 4 (some .int) 2 := ⟨Or.inl gm_774, gm_775, gm_776, gm_93, gm_777, by decide +kernel⟩
theorem gm_319 : Cond.fieldLinkNest RX6 288 RX5 (TX5 3).2.1 (TX5 3).2.2.1 "WrapRuns" ∈ NT := nt_mem 319 (by decide +kernel) rfl
theorem fl_X6_288 : FL RX6 288 5 3 := ⟨RX5, TX5, 5, tyX5, rfl, ti_X5, tyX5_ok, nmX5, by decide, rfl, Or.inr ⟨_, gm_319⟩⟩
theorem gm_321 : Cond.fieldLinkNest RX6 291 RX5 (TX5 4).2.1 (TX5 4).2.2.1 "WrapRuns" ∈ NT := nt_mem 321 (by decide +kernel) rfl
theorem fl_X6_291 : FL RX6 291 5 4 := ⟨RX5, TX5, 5, tyX5, rfl, ti_X5, tyX5_ok, nmX5, by decide, rfl, Or.inr ⟨_, gm_321⟩⟩
theorem gm_1086 : Jvm.Cond.constantLong RX6 294 (4503599627370495 : Int64) ∈ GT := gt_mem 1086 (by decide +kernel) (by decide +kernel)
theorem gm_798 : Cond.methodLink RX6 296 Lib.Math.abs.name ∈ GT := gt_mem 798 (by decide +kernel) (by decide +kernel)
theorem gm_799 : Cond.methodLink RX6 301 yX1_foundPoints ∈ GT := gt_mem 799 (by decide +kernel) (by decide +kernel)
theorem gm_802 : Cond.code yX1_foundPoints cX1_foundPoints 3 (some .int) ∈ GT := gt_mem 802 (by decide +kernel) (by decide +kernel)
theorem gm_800 : Cond.instanceMethod yX1_foundPoints ∈ GT := gt_mem 800 (by decide +kernel) (by decide +kernel)
theorem gm_801 : Cond.selects RX1 yX1_foundPoints yX1_foundPoints ∈ GT := gt_mem 801 (by decide +kernel) (by decide +kernel)
theorem lk_X6_301 : LKV RX6 301 RX1 yX1_foundPoints cX1_foundPoints 3 (some .int) 0 := ⟨Or.inl gm_799, gm_800, gm_801, gm_93, gm_802, by decide +kernel⟩
theorem gm_814 : Jvm.Cond.constantDouble RX6 304 (4611686018427387904 : UInt64) ∈ GT := gt_mem 814 (by decide +kernel) (by decide +kernel)
theorem fl_X6_54 : FL RX6 54 6 7 := ⟨RX6, TX6, 8, tyX6, rfl, ti_X6, tyX6_ok, nmX6, by decide, rfl, Or.inl gm_507⟩
theorem gm_1101 : Cond.methodLink RX6 306 yX4_write ∈ GT := gt_mem 1101 (by decide +kernel) (by decide +kernel)
theorem gm_1104 : Cond.code yX4_write cX4_write 3 none ∈ GT := gt_mem 1104 (by decide +kernel) (by decide +kernel)
theorem gm_1102 : Cond.instanceMethod yX4_write ∈ GT := gt_mem 1102 (by decide +kernel) (by decide +kernel)
theorem gm_1103 : Cond.selects RX4 yX4_write yX4_write ∈ GT := gt_mem 1103 (by decide +kernel) (by decide +kernel)
theorem lk_X6_306 : LKV RX6 306 RX4 yX4_write cX4_write 3 none 1 := ⟨Or.inl gm_1101, gm_1102, gm_1103, gm_95, gm_1104, by decide +kernel⟩
theorem zk_55 : zk shPL shX [99, 100, 77, 78, 79, 80, 81, 82, 83] = true := by decide +kernel
theorem zs_55 : zs shX [99, 100, 77, 78, 79, 80, 81, 82, 83] = true := by decide +kernel
abbrev zl_55 : List Nat := [99, 100, 77, 78, 79, 80, 81, 82, 83]
theorem gm_341 : Cond.fieldLinkNest RX6 309 RX4 (TX4 1).2.1 (TX4 1).2.2.1 "WrapRuns" ∈ NT := nt_mem 341 (by decide +kernel) rfl
theorem fl_X6_309 : FL RX6 309 4 1 := ⟨RX4, TX4, 2, tyX4, rfl, ti_X4, tyX4_ok, nmX4, by decide, rfl, Or.inr ⟨_, gm_341⟩⟩
theorem gm_819 : Cond.methodLink RX6 310 yX4_signAt ∈ GT := gt_mem 819 (by decide +kernel) (by decide +kernel)
theorem gm_822 : Cond.code yX4_signAt cX4_signAt 2 (some .int) ∈ GT := gt_mem 822 (by decide +kernel) (by decide +kernel)
theorem gm_820 : Cond.instanceMethod yX4_signAt ∈ GT := gt_mem 820 (by decide +kernel) (by decide +kernel)
theorem gm_821 : Cond.selects RX4 yX4_signAt yX4_signAt ∈ GT := gt_mem 821 (by decide +kernel) (by decide +kernel)
theorem lk_X6_310 : LKV RX6 310 RX4 yX4_signAt cX4_signAt 2 (some .int) 1 := ⟨Or.inl gm_819, gm_820, gm_821, gm_95, gm_822, by decide +kernel⟩
theorem zk_56 : zk shP shX [99, 100] = true := by decide +kernel
theorem zs_56 : zs shX [99, 100] = true := by decide +kernel
abbrev zl_56 : List Nat := [99, 100]
theorem ti_X7 : ∀ w ∈ u_ws RX7 TX7 32, w ∈ GT := gt_ws [1190, 1192, 1194, 1196, 1198, 1200, 1202, 1204, 1206, 1208, 1210, 1212, 1214, 1216, 1218, 1220, 1222, 1224, 1226, 1228, 1230, 1232, 1234, 1236, 1238, 1240, 1242, 1244, 1246, 1248, 1250, 1252] (by decide +kernel) (by decide +kernel)
theorem gm_1159 : Cond.fieldLink RX7 9 RX7 (TX7 1).2.1 (TX7 1).2.2.1 ∈ GT := gt_mem 1159 (by decide +kernel) (by decide +kernel)
theorem fl_X7_9 : FL RX7 9 7 1 := ⟨RX7, TX7, 32, tyX7, rfl, ti_X7, tyX7_ok, nmX7, by decide, rfl, Or.inl gm_1159⟩
theorem gm_1146 : Jvm.Cond.constantLong RX7 93 (1103515245 : Int64) ∈ GT := gt_mem 1146 (by decide +kernel) (by decide +kernel)
theorem gm_1147 : Jvm.Cond.constantLong RX7 95 (12345 : Int64) ∈ GT := gt_mem 1147 (by decide +kernel) (by decide +kernel)
theorem gm_1148 : Jvm.Cond.constantLong RX7 97 (2147483648 : Int64) ∈ GT := gt_mem 1148 (by decide +kernel) (by decide +kernel)
theorem gm_1149 : Jvm.Cond.constant RX7 99 (65536 : Int32) ∈ GT := gt_mem 1149 (by decide +kernel) (by decide +kernel)
theorem gm_1184 : Cond.fieldLink RX7 54 RX7 (TX7 26).2.1 (TX7 26).2.2.1 ∈ GT := gt_mem 1184 (by decide +kernel) (by decide +kernel)
theorem fl_X7_54 : FL RX7 54 7 26 := ⟨RX7, TX7, 32, tyX7, rfl, ti_X7, tyX7_ok, nmX7, by decide, rfl, Or.inl gm_1184⟩
theorem gm_1183 : Cond.fieldLink RX7 51 RX7 (TX7 25).2.1 (TX7 25).2.2.1 ∈ GT := gt_mem 1183 (by decide +kernel) (by decide +kernel)
theorem fl_X7_51 : FL RX7 51 7 25 := ⟨RX7, TX7, 32, tyX7, rfl, ti_X7, tyX7_ok, nmX7, by decide, rfl, Or.inl gm_1183⟩
theorem gm_1142 : Cond.methodLink RX7 84 yX7_shuffle ∈ GT := gt_mem 1142 (by decide +kernel) (by decide +kernel)
theorem gm_1145 : Cond.code yX7_shuffle cX7_shuffle 4 none ∈ GT := gt_mem 1145 (by decide +kernel) (by decide +kernel)
theorem gm_101 : Cond.initialized RX7 ∈ GT := gt_mem 101 (by decide +kernel) (by decide +kernel)
theorem gm_1144 : Cond.instanceMethod yX7_shuffle ∈ GT := gt_mem 1144 (by decide +kernel) (by decide +kernel)
theorem gm_31 : Cond.selects RX7 yX7_shuffle yX7_shuffle ∈ GT := gt_mem 31 (by decide +kernel) (by decide +kernel)
theorem lk_X7_84 : LKV RX7 84 RX7 yX7_shuffle cX7_shuffle 4 none 0 := ⟨Or.inl gm_1142, gm_1144, gm_31, gm_101, gm_1145, by decide +kernel⟩
theorem gm_1150 : Cond.methodLink RX7 87 yX7_putFirst ∈ GT := gt_mem 1150 (by decide +kernel) (by decide +kernel)
theorem gm_1153 : Cond.code yX7_putFirst cX7_putFirst 3 none ∈ GT := gt_mem 1153 (by decide +kernel) (by decide +kernel)
theorem gm_1152 : Cond.instanceMethod yX7_putFirst ∈ GT := gt_mem 1152 (by decide +kernel) (by decide +kernel)
theorem gm_32 : Cond.selects RX7 yX7_putFirst yX7_putFirst ∈ GT := gt_mem 32 (by decide +kernel) (by decide +kernel)
theorem lk_X7_87 : LKV RX7 87 RX7 yX7_putFirst cX7_putFirst 3 none 0 := ⟨Or.inl gm_1150, gm_1152, gm_32, gm_101, gm_1153, by decide +kernel⟩
theorem gm_1154 : Cond.methodLink RX7 90 yX7_dealOut ∈ GT := gt_mem 1154 (by decide +kernel) (by decide +kernel)
theorem gm_1157 : Cond.code yX7_dealOut cX7_dealOut 4 none ∈ GT := gt_mem 1157 (by decide +kernel) (by decide +kernel)
theorem gm_1156 : Cond.instanceMethod yX7_dealOut ∈ GT := gt_mem 1156 (by decide +kernel) (by decide +kernel)
theorem gm_33 : Cond.selects RX7 yX7_dealOut yX7_dealOut ∈ GT := gt_mem 33 (by decide +kernel) (by decide +kernel)
theorem lk_X7_90 : LKV RX7 90 RX7 yX7_dealOut cX7_dealOut 4 none 0 := ⟨Or.inl gm_1154, gm_1156, gm_33, gm_101, gm_1157, by decide +kernel⟩
theorem gm_1135 : Cond.methodLink RX7 3 Lib.objectInit ∈ GT := gt_mem 1135 (by decide +kernel) (by decide +kernel)
theorem ff_X7_9 : FF RX7 9 7 1 := ⟨RX7, TX7, 32, tyX7, tyX7 1, rfl, ti_X7, tyX7_ok, nmX7, by decide, rfl, rfl, gm_1159, rfl, tyX7_ok 1 (by decide), fun _ => ⟨rfl, rfl⟩⟩
theorem gm_1160 : Cond.fieldLink RX7 15 RX7 (TX7 2).2.1 (TX7 2).2.2.1 ∈ GT := gt_mem 1160 (by decide +kernel) (by decide +kernel)
theorem ff_X7_15 : FF RX7 15 7 2 := ⟨RX7, TX7, 32, tyX7, tyX7 2, rfl, ti_X7, tyX7_ok, nmX7, by decide, rfl, rfl, gm_1160, rfl, tyX7_ok 2 (by decide), fun _ => ⟨rfl, rfl⟩⟩
theorem gm_1136 : Cond.classLink RX7 13 ("[" ++ (FieldType.array .int).toString) ∈ GT := gt_mem 1136 (by decide +kernel) (by decide +kernel)
theorem zk_57 : zk shA10 shWc [2, 3, 4, 5, 6, 7, 8, 9, 10, 11, 12] = true := by decide +kernel
abbrev zl_57 : List Nat := [2, 3, 4, 5, 6, 7, 8, 9, 10, 11, 12]
theorem gm_1162 : Cond.fieldLink RX7 18 RX7 (TX7 4).2.1 (TX7 4).2.2.1 ∈ GT := gt_mem 1162 (by decide +kernel) (by decide +kernel)
theorem ff_X7_18 : FF RX7 18 7 4 := ⟨RX7, TX7, 32, tyX7, tyX7 4, rfl, ti_X7, tyX7_ok, nmX7, by decide, rfl, rfl, gm_1162, rfl, tyX7_ok 4 (by decide), fun _ => ⟨rfl, rfl⟩⟩
theorem zk_58 : zk shA2 shWc [13, 14, 15] = true := by decide +kernel
abbrev zl_58 : List Nat := [13, 14, 15]
theorem gm_1163 : Cond.fieldLink RX7 21 RX7 (TX7 5).2.1 (TX7 5).2.2.1 ∈ GT := gt_mem 1163 (by decide +kernel) (by decide +kernel)
theorem ff_X7_21 : FF RX7 21 7 5 := ⟨RX7, TX7, 32, tyX7, tyX7 5, rfl, ti_X7, tyX7_ok, nmX7, by decide, rfl, rfl, gm_1163, rfl, tyX7_ok 5 (by decide), fun _ => ⟨rfl, rfl⟩⟩
theorem gm_1255 : Cond.arrayClass (newarray.typeOf ArrayType.boolean) ∈ GT := gt_mem 1255 (by decide +kernel) (by decide +kernel)
theorem gm_1164 : Cond.fieldLink RX7 25 RX7 (TX7 6).2.1 (TX7 6).2.2.1 ∈ GT := gt_mem 1164 (by decide +kernel) (by decide +kernel)
theorem ff_X7_25 : FF RX7 25 7 6 := ⟨RX7, TX7, 32, tyX7, tyX7 6, rfl, ti_X7, tyX7_ok, nmX7, by decide, rfl, rfl, gm_1164, rfl, tyX7_ok 6 (by decide), fun _ => ⟨rfl, rfl⟩⟩
theorem gm_1165 : Cond.fieldLink RX7 28 RX7 (TX7 7).2.1 (TX7 7).2.2.1 ∈ GT := gt_mem 1165 (by decide +kernel) (by decide +kernel)
theorem ff_X7_28 : FF RX7 28 7 7 := ⟨RX7, TX7, 32, tyX7, tyX7 7, rfl, ti_X7, tyX7_ok, nmX7, by decide, rfl, rfl, gm_1165, rfl, tyX7_ok 7 (by decide), fun _ => ⟨rfl, rfl⟩⟩
theorem gm_1167 : Cond.fieldLink RX7 31 RX7 (TX7 9).2.1 (TX7 9).2.2.1 ∈ GT := gt_mem 1167 (by decide +kernel) (by decide +kernel)
theorem ff_X7_31 : FF RX7 31 7 9 := ⟨RX7, TX7, 32, tyX7, tyX7 9, rfl, ti_X7, tyX7_ok, nmX7, by decide, rfl, rfl, gm_1167, rfl, tyX7_ok 9 (by decide), fun _ => ⟨rfl, rfl⟩⟩
theorem gm_1169 : Cond.fieldLink RX7 35 RX7 (TX7 11).2.1 (TX7 11).2.2.1 ∈ GT := gt_mem 1169 (by decide +kernel) (by decide +kernel)
theorem ff_X7_35 : FF RX7 35 7 11 := ⟨RX7, TX7, 32, tyX7, tyX7 11, rfl, ti_X7, tyX7_ok, nmX7, by decide, rfl, rfl, gm_1169, rfl, tyX7_ok 11 (by decide), fun _ => ⟨rfl, rfl⟩⟩
theorem gm_1171 : Cond.fieldLink RX7 38 RX7 (TX7 13).2.1 (TX7 13).2.2.1 ∈ GT := gt_mem 1171 (by decide +kernel) (by decide +kernel)
theorem ff_X7_38 : FF RX7 38 7 13 := ⟨RX7, TX7, 32, tyX7, tyX7 13, rfl, ti_X7, tyX7_ok, nmX7, by decide, rfl, rfl, gm_1171, rfl, tyX7_ok 13 (by decide), fun _ => ⟨rfl, rfl⟩⟩
theorem gm_1173 : Cond.fieldLink RX7 41 RX7 (TX7 15).2.1 (TX7 15).2.2.1 ∈ GT := gt_mem 1173 (by decide +kernel) (by decide +kernel)
theorem ff_X7_41 : FF RX7 41 7 15 := ⟨RX7, TX7, 32, tyX7, tyX7 15, rfl, ti_X7, tyX7_ok, nmX7, by decide, rfl, rfl, gm_1173, rfl, tyX7_ok 15 (by decide), fun _ => ⟨rfl, rfl⟩⟩
theorem gm_1174 : Cond.fieldLink RX7 44 RX7 (TX7 16).2.1 (TX7 16).2.2.1 ∈ GT := gt_mem 1174 (by decide +kernel) (by decide +kernel)
theorem ff_X7_44 : FF RX7 44 7 16 := ⟨RX7, TX7, 32, tyX7, tyX7 16, rfl, ti_X7, tyX7_ok, nmX7, by decide, rfl, rfl, gm_1174, rfl, tyX7_ok 16 (by decide), fun _ => ⟨rfl, rfl⟩⟩
theorem gm_1178 : Cond.fieldLink RX7 48 RX7 (TX7 20).2.1 (TX7 20).2.2.1 ∈ GT := gt_mem 1178 (by decide +kernel) (by decide +kernel)
theorem ff_X7_48 : FF RX7 48 7 20 := ⟨RX7, TX7, 32, tyX7, tyX7 20, rfl, ti_X7, tyX7_ok, nmX7, by decide, rfl, rfl, gm_1178, rfl, tyX7_ok 20 (by decide), fun _ => ⟨rfl, rfl⟩⟩
theorem ff_X7_51 : FF RX7 51 7 25 := ⟨RX7, TX7, 32, tyX7, tyX7 25, rfl, ti_X7, tyX7_ok, nmX7, by decide, rfl, rfl, gm_1183, rfl, tyX7_ok 25 (by decide), fun _ => ⟨rfl, rfl⟩⟩
theorem fp_X7_54 : FP RX7 54 7 26 .int := ⟨RX7, TX7, 32, tyX7, rfl, ti_X7, tyX7_ok, nmX7, by decide, rfl, Or.inl gm_1184, rfl, by decide +kernel⟩
theorem zk_59 : zcs shWc shWs [(0, 1), (0, 2), (0, 4), (0, 5), (0, 6), (0, 7), (0, 9), (0, 11), (0, 13), (0, 15), (0, 16), (0, 20), (0, 25)] = true := by decide +kernel
theorem zk_60 : zcd shWs shWt 2 10 3 = true := by decide +kernel
theorem zk_61 : zcd shWt shW 13 2 14 = true := by decide +kernel
theorem gm_1138 : Cond.methodLink RX7 58 yX7_begin ∈ GT := gt_mem 1138 (by decide +kernel) (by decide +kernel)
theorem gm_1141 : Cond.code yX7_begin cX7_begin 6 none ∈ GT := gt_mem 1141 (by decide +kernel) (by decide +kernel)
theorem gm_1140 : Cond.instanceMethod yX7_begin ∈ GT := gt_mem 1140 (by decide +kernel) (by decide +kernel)
theorem gm_30 : Cond.selects RX7 yX7_begin yX7_begin ∈ GT := gt_mem 30 (by decide +kernel) (by decide +kernel)
theorem lk_X7_58 : LKV RX7 58 RX7 yX7_begin cX7_begin 6 none 4 := ⟨Or.inl gm_1138, gm_1140, gm_30, gm_101, gm_1141, by decide +kernel⟩
theorem gm_1158 : Cond.fieldLink RX7 62 RX7 (TX7 0).2.1 (TX7 0).2.2.1 ∈ GT := gt_mem 1158 (by decide +kernel) (by decide +kernel)
theorem fl_X7_62 : FL RX7 62 7 0 := ⟨RX7, TX7, 32, tyX7, rfl, ti_X7, tyX7_ok, nmX7, by decide, rfl, Or.inl gm_1158⟩
theorem gm_1161 : Cond.fieldLink RX7 65 RX7 (TX7 3).2.1 (TX7 3).2.2.1 ∈ GT := gt_mem 1161 (by decide +kernel) (by decide +kernel)
theorem fl_X7_65 : FL RX7 65 7 3 := ⟨RX7, TX7, 32, tyX7, rfl, ti_X7, tyX7_ok, nmX7, by decide, rfl, Or.inl gm_1161⟩
theorem fl_X7_15 : FL RX7 15 7 2 := ⟨RX7, TX7, 32, tyX7, rfl, ti_X7, tyX7_ok, nmX7, by decide, rfl, Or.inl gm_1160⟩
theorem gm_1272 : Cond.methodLink RX7 68 yX7_copy ∈ GT := gt_mem 1272 (by decide +kernel) (by decide +kernel)
theorem gm_1274 : Cond.code yX7_copy cX7_copy 3 none ∈ GT := gt_mem 1274 (by decide +kernel) (by decide +kernel)
theorem gm_1273 : Cond.static yX7_copy ∈ GT := gt_mem 1273 (by decide +kernel) (by decide +kernel)
theorem lk_X7_68 : LKS RX7 68 yX7_copy cX7_copy 3 none 2 := ⟨Or.inl gm_1272, gm_1273, gm_101, gm_1274, by decide +kernel⟩
theorem zk_62 : ∀ n : Nat, n < 13 → 3 ≤ n → zk shC shW [1, n] = true ∧ zs shW [1, n] = true := by decide +kernel
theorem fp_X7_65 : FP RX7 65 7 3 .int := ⟨RX7, TX7, 32, tyX7, rfl, ti_X7, tyX7_ok, nmX7, by decide, rfl, Or.inl gm_1161, rfl, by decide +kernel⟩
theorem zk_63 : ∀ n : Nat, n < 13 → 3 ≤ n → zk shC shW [17, n] = true ∧ zs shW [17, n] = true := by decide +kernel
theorem fp_X7_62 : FP RX7 62 7 0 .int := ⟨RX7, TX7, 32, tyX7, rfl, ti_X7, tyX7_ok, nmX7, by decide, rfl, Or.inl gm_1158, rfl, by decide +kernel⟩
theorem gm_1427 : Cond.methodLink RX7 72 yX7_bad ∈ GT := gt_mem 1427 (by decide +kernel) (by decide +kernel)
theorem gm_1430 : Cond.code yX7_bad cX7_bad 8 (some .boolean) ∈ GT := gt_mem 1430 (by decide +kernel) (by decide +kernel)
theorem gm_1429 : Cond.instanceMethod yX7_bad ∈ GT := gt_mem 1429 (by decide +kernel) (by decide +kernel)
theorem gm_64 : Cond.selects RX7 yX7_bad yX7_bad ∈ GT := gt_mem 64 (by decide +kernel) (by decide +kernel)
theorem lk_X7_72 : LKV RX7 72 RX7 yX7_bad cX7_bad 8 (some .boolean) 4 := ⟨Or.inl gm_1427, gm_1429, gm_64, gm_101, gm_1430, by decide +kernel⟩
theorem gm_1291 : Cond.methodLink RX7 76 yX7_owns ∈ GT := gt_mem 1291 (by decide +kernel) (by decide +kernel)
theorem gm_1294 : Cond.code yX7_owns cX7_owns 3 (some .boolean) ∈ GT := gt_mem 1294 (by decide +kernel) (by decide +kernel)
theorem gm_1293 : Cond.instanceMethod yX7_owns ∈ GT := gt_mem 1293 (by decide +kernel) (by decide +kernel)
theorem gm_39 : Cond.selects RX7 yX7_owns yX7_owns ∈ GT := gt_mem 39 (by decide +kernel) (by decide +kernel)
theorem lk_X7_76 : LKV RX7 76 RX7 yX7_owns cX7_owns 3 (some .boolean) 2 := ⟨Or.inl gm_1291, gm_1293, gm_39, gm_101, gm_1294, by decide +kernel⟩
theorem gm_1362 : Cond.methodLink RX7 80 yX7_points ∈ GT := gt_mem 1362 (by decide +kernel) (by decide +kernel)
theorem gm_1364 : Cond.code yX7_points cX7_points 2 (some .int) ∈ GT := gt_mem 1364 (by decide +kernel) (by decide +kernel)
theorem gm_1363 : Cond.static yX7_points ∈ GT := gt_mem 1363 (by decide +kernel) (by decide +kernel)
theorem lk_X7_80 : LKS RX7 80 yX7_points cX7_points 2 (some .int) 1 := ⟨Or.inl gm_1362, gm_1363, gm_101, gm_1364, by decide +kernel⟩
theorem gm_1170 : Cond.fieldLink RX7 100 RX7 (TX7 12).2.1 (TX7 12).2.2.1 ∈ GT := gt_mem 1170 (by decide +kernel) (by decide +kernel)
theorem fp_X7_100 : FP RX7 100 7 12 .int := ⟨RX7, TX7, 32, tyX7, rfl, ti_X7, tyX7_ok, nmX7, by decide, rfl, Or.inl gm_1170, rfl, by decide +kernel⟩
theorem fl_X7_35 : FL RX7 35 7 11 := ⟨RX7, TX7, 32, tyX7, rfl, ti_X7, tyX7_ok, nmX7, by decide, rfl, Or.inl gm_1169⟩
theorem fl_X7_100 : FL RX7 100 7 12 := ⟨RX7, TX7, 32, tyX7, rfl, ti_X7, tyX7_ok, nmX7, by decide, rfl, Or.inl gm_1170⟩
theorem gm_1339 : Cond.methodLink RX7 103 yX7_ones ∈ GT := gt_mem 1339 (by decide +kernel) (by decide +kernel)
theorem gm_1341 : Cond.code yX7_ones cX7_ones 5 (some .int) ∈ GT := gt_mem 1341 (by decide +kernel) (by decide +kernel)
theorem gm_1340 : Cond.static yX7_ones ∈ GT := gt_mem 1340 (by decide +kernel) (by decide +kernel)
theorem lk_X7_103 : LKS RX7 103 yX7_ones cX7_ones 5 (some .int) 1 := ⟨Or.inl gm_1339, gm_1340, gm_101, gm_1341, by decide +kernel⟩
theorem gm_1350 : Cond.methodLink RX7 107 yX7_isSet ∈ GT := gt_mem 1350 (by decide +kernel) (by decide +kernel)
theorem gm_1353 : Cond.code yX7_isSet cX7_isSet 5 (some .boolean) ∈ GT := gt_mem 1353 (by decide +kernel) (by decide +kernel)
theorem gm_1352 : Cond.instanceMethod yX7_isSet ∈ GT := gt_mem 1352 (by decide +kernel) (by decide +kernel)
theorem gm_52 : Cond.selects RX7 yX7_isSet yX7_isSet ∈ GT := gt_mem 52 (by decide +kernel) (by decide +kernel)
theorem lk_X7_107 : LKV RX7 107 RX7 yX7_isSet cX7_isSet 5 (some .boolean) 1 := ⟨Or.inl gm_1350, gm_1352, gm_52, gm_101, gm_1353, by decide +kernel⟩
theorem zk_64 : zk shN shW [] = true := by decide +kernel
theorem zs_64 : zs shW [] = true := by decide +kernel
abbrev zl_64 : List Nat := []
theorem gm_1172 : Cond.fieldLink RX7 111 RX7 (TX7 14).2.1 (TX7 14).2.2.1 ∈ GT := gt_mem 1172 (by decide +kernel) (by decide +kernel)
theorem fl_X7_111 : FL RX7 111 7 14 := ⟨RX7, TX7, 32, tyX7, rfl, ti_X7, tyX7_ok, nmX7, by decide, rfl, Or.inl gm_1172⟩
theorem fl_X7_38 : FL RX7 38 7 13 := ⟨RX7, TX7, 32, tyX7, rfl, ti_X7, tyX7_ok, nmX7, by decide, rfl, Or.inl gm_1171⟩
theorem gm_1346 : Cond.methodLink RX7 114 yX7_isAhead ∈ GT := gt_mem 1346 (by decide +kernel) (by decide +kernel)
theorem gm_1349 : Cond.code yX7_isAhead cX7_isAhead 6 (some .boolean) ∈ GT := gt_mem 1349 (by decide +kernel) (by decide +kernel)
theorem gm_1348 : Cond.instanceMethod yX7_isAhead ∈ GT := gt_mem 1348 (by decide +kernel) (by decide +kernel)
theorem gm_51 : Cond.selects RX7 yX7_isAhead yX7_isAhead ∈ GT := gt_mem 51 (by decide +kernel) (by decide +kernel)
theorem lk_X7_114 : LKV RX7 114 RX7 yX7_isAhead cX7_isAhead 6 (some .boolean) 2 := ⟨Or.inl gm_1346, gm_1348, gm_51, gm_101, gm_1349, by decide +kernel⟩
theorem fp_X7_111 : FP RX7 111 7 14 .int := ⟨RX7, TX7, 32, tyX7, rfl, ti_X7, tyX7_ok, nmX7, by decide, rfl, Or.inl gm_1172, rfl, by decide +kernel⟩
theorem gm_1342 : Cond.methodLink RX7 117 yX7_addMeld ∈ GT := gt_mem 1342 (by decide +kernel) (by decide +kernel)
theorem gm_1345 : Cond.code yX7_addMeld cX7_addMeld 3 none ∈ GT := gt_mem 1345 (by decide +kernel) (by decide +kernel)
theorem gm_1344 : Cond.instanceMethod yX7_addMeld ∈ GT := gt_mem 1344 (by decide +kernel) (by decide +kernel)
theorem gm_50 : Cond.selects RX7 yX7_addMeld yX7_addMeld ∈ GT := gt_mem 50 (by decide +kernel) (by decide +kernel)
theorem lk_X7_117 : LKV RX7 117 RX7 yX7_addMeld cX7_addMeld 3 none 1 := ⟨Or.inl gm_1342, gm_1344, gm_50, gm_101, gm_1345, by decide +kernel⟩
theorem gm_1358 : Cond.methodLink RX7 121 yX7_placeOf ∈ GT := gt_mem 1358 (by decide +kernel) (by decide +kernel)
theorem gm_1361 : Cond.code yX7_placeOf cX7_placeOf 3 (some .int) ∈ GT := gt_mem 1361 (by decide +kernel) (by decide +kernel)
theorem gm_1360 : Cond.instanceMethod yX7_placeOf ∈ GT := gt_mem 1360 (by decide +kernel) (by decide +kernel)
theorem gm_54 : Cond.selects RX7 yX7_placeOf yX7_placeOf ∈ GT := gt_mem 54 (by decide +kernel) (by decide +kernel)
theorem lk_X7_121 : LKV RX7 121 RX7 yX7_placeOf cX7_placeOf 3 (some .int) 1 := ⟨Or.inl gm_1358, gm_1360, gm_54, gm_101, gm_1361, by decide +kernel⟩
theorem gm_1335 : Cond.methodLink RX7 124 yX7_findSets ∈ GT := gt_mem 1335 (by decide +kernel) (by decide +kernel)
theorem gm_1338 : Cond.code yX7_findSets cX7_findSets 4 none ∈ GT := gt_mem 1338 (by decide +kernel) (by decide +kernel)
theorem gm_1337 : Cond.instanceMethod yX7_findSets ∈ GT := gt_mem 1337 (by decide +kernel) (by decide +kernel)
theorem gm_49 : Cond.selects RX7 yX7_findSets yX7_findSets ∈ GT := gt_mem 49 (by decide +kernel) (by decide +kernel)
theorem lk_X7_124 : LKV RX7 124 RX7 yX7_findSets cX7_findSets 4 none 0 := ⟨Or.inl gm_1335, gm_1337, gm_49, gm_101, gm_1338, by decide +kernel⟩
theorem gm_1354 : Cond.methodLink RX7 127 yX7_findRuns ∈ GT := gt_mem 1354 (by decide +kernel) (by decide +kernel)
theorem gm_1357 : Cond.code yX7_findRuns cX7_findRuns 8 none ∈ GT := gt_mem 1357 (by decide +kernel) (by decide +kernel)
theorem gm_1356 : Cond.instanceMethod yX7_findRuns ∈ GT := gt_mem 1356 (by decide +kernel) (by decide +kernel)
theorem gm_53 : Cond.selects RX7 yX7_findRuns yX7_findRuns ∈ GT := gt_mem 53 (by decide +kernel) (by decide +kernel)
theorem lk_X7_127 : LKV RX7 127 RX7 yX7_findRuns cX7_findRuns 8 none 0 := ⟨Or.inl gm_1354, gm_1356, gm_53, gm_101, gm_1357, by decide +kernel⟩
theorem fl_X7_41 : FL RX7 41 7 15 := ⟨RX7, TX7, 32, tyX7, rfl, ti_X7, tyX7_ok, nmX7, by decide, rfl, Or.inl gm_1173⟩
theorem gm_1331 : Cond.methodLink RX7 130 yX7_findRests ∈ GT := gt_mem 1331 (by decide +kernel) (by decide +kernel)
theorem gm_1334 : Cond.code yX7_findRests cX7_findRests 6 (some .int) ∈ GT := gt_mem 1334 (by decide +kernel) (by decide +kernel)
theorem gm_1333 : Cond.instanceMethod yX7_findRests ∈ GT := gt_mem 1333 (by decide +kernel) (by decide +kernel)
theorem gm_48 : Cond.selects RX7 yX7_findRests yX7_findRests ∈ GT := gt_mem 48 (by decide +kernel) (by decide +kernel)
theorem lk_X7_130 : LKV RX7 130 RX7 yX7_findRests cX7_findRests 6 (some .int) 0 := ⟨Or.inl gm_1331, gm_1333, gm_48, gm_101, gm_1334, by decide +kernel⟩
theorem gm_1177 : Cond.fieldLink RX7 134 RX7 (TX7 19).2.1 (TX7 19).2.2.1 ∈ GT := gt_mem 1177 (by decide +kernel) (by decide +kernel)
theorem fp_X7_134 : FP RX7 134 7 19 .int := ⟨RX7, TX7, 32, tyX7, rfl, ti_X7, tyX7_ok, nmX7, by decide, rfl, Or.inl gm_1177, rfl, by decide +kernel⟩
theorem gm_1175 : Cond.fieldLink RX7 137 RX7 (TX7 17).2.1 (TX7 17).2.2.1 ∈ GT := gt_mem 1175 (by decide +kernel) (by decide +kernel)
theorem fp_X7_137 : FP RX7 137 7 17 .int := ⟨RX7, TX7, 32, tyX7, rfl, ti_X7, tyX7_ok, nmX7, by decide, rfl, Or.inl gm_1175, rfl, by decide +kernel⟩
theorem gm_1176 : Cond.fieldLink RX7 140 RX7 (TX7 18).2.1 (TX7 18).2.2.1 ∈ GT := gt_mem 1176 (by decide +kernel) (by decide +kernel)
theorem fp_X7_140 : FP RX7 140 7 18 .long := ⟨RX7, TX7, 32, tyX7, rfl, ti_X7, tyX7_ok, nmX7, by decide, rfl, Or.inl gm_1176, rfl, by decide +kernel⟩
theorem fl_X7_134 : FL RX7 134 7 19 := ⟨RX7, TX7, 32, tyX7, rfl, ti_X7, tyX7_ok, nmX7, by decide, rfl, Or.inl gm_1177⟩
theorem fl_X7_140 : FL RX7 140 7 18 := ⟨RX7, TX7, 32, tyX7, rfl, ti_X7, tyX7_ok, nmX7, by decide, rfl, Or.inl gm_1176⟩
theorem gm_1377 : Cond.methodLink RX7 144 yX7_cardsOf ∈ GT := gt_mem 1377 (by decide +kernel) (by decide +kernel)
theorem gm_1380 : Cond.code yX7_cardsOf cX7_cardsOf 5 (some .long) ∈ GT := gt_mem 1380 (by decide +kernel) (by decide +kernel)
theorem gm_1379 : Cond.instanceMethod yX7_cardsOf ∈ GT := gt_mem 1379 (by decide +kernel) (by decide +kernel)
theorem gm_58 : Cond.selects RX7 yX7_cardsOf yX7_cardsOf ∈ GT := gt_mem 58 (by decide +kernel) (by decide +kernel)
theorem lk_X7_144 : LKV RX7 144 RX7 yX7_cardsOf cX7_cardsOf 5 (some .long) 1 := ⟨Or.inl gm_1377, gm_1379, gm_58, gm_101, gm_1380, by decide +kernel⟩
theorem fl_X7_44 : FL RX7 44 7 16 := ⟨RX7, TX7, 32, tyX7, rfl, ti_X7, tyX7_ok, nmX7, by decide, rfl, Or.inl gm_1174⟩
theorem fl_X7_137 : FL RX7 137 7 17 := ⟨RX7, TX7, 32, tyX7, rfl, ti_X7, tyX7_ok, nmX7, by decide, rfl, Or.inl gm_1175⟩
theorem gm_1327 : Cond.methodLink RX7 148 yX7_takeHand ∈ GT := gt_mem 1327 (by decide +kernel) (by decide +kernel)
theorem gm_1330 : Cond.code yX7_takeHand cX7_takeHand 5 none ∈ GT := gt_mem 1330 (by decide +kernel) (by decide +kernel)
theorem gm_1329 : Cond.instanceMethod yX7_takeHand ∈ GT := gt_mem 1329 (by decide +kernel) (by decide +kernel)
theorem gm_47 : Cond.selects RX7 yX7_takeHand yX7_takeHand ∈ GT := gt_mem 47 (by decide +kernel) (by decide +kernel)
theorem lk_X7_148 : LKV RX7 148 RX7 yX7_takeHand cX7_takeHand 5 none 3 := ⟨Or.inl gm_1327, gm_1329, gm_47, gm_101, gm_1330, by decide +kernel⟩
theorem gm_1373 : Cond.methodLink RX7 152 yX7_layOut ∈ GT := gt_mem 1373 (by decide +kernel) (by decide +kernel)
theorem gm_1376 : Cond.code yX7_layOut cX7_layOut 5 none ∈ GT := gt_mem 1376 (by decide +kernel) (by decide +kernel)
theorem gm_1375 : Cond.instanceMethod yX7_layOut ∈ GT := gt_mem 1375 (by decide +kernel) (by decide +kernel)
theorem gm_57 : Cond.selects RX7 yX7_layOut yX7_layOut ∈ GT := gt_mem 57 (by decide +kernel) (by decide +kernel)
theorem lk_X7_152 : LKV RX7 152 RX7 yX7_layOut cX7_layOut 5 none 0 := ⟨Or.inl gm_1373, gm_1375, gm_57, gm_101, gm_1376, by decide +kernel⟩
theorem gm_1395 : Cond.methodLink RX7 155 yX7_lowest ∈ GT := gt_mem 1395 (by decide +kernel) (by decide +kernel)
theorem gm_1397 : Cond.code yX7_lowest cX7_lowest 3 (some .int) ∈ GT := gt_mem 1397 (by decide +kernel) (by decide +kernel)
theorem gm_1396 : Cond.static yX7_lowest ∈ GT := gt_mem 1396 (by decide +kernel) (by decide +kernel)
theorem lk_X7_155 : LKS RX7 155 yX7_lowest cX7_lowest 3 (some .int) 1 := ⟨Or.inl gm_1395, gm_1396, gm_101, gm_1397, by decide +kernel⟩
theorem gm_1398 : Jvm.Cond.constantLong RX7 158 (-1 : Int64) ∈ GT := gt_mem 1398 (by decide +kernel) (by decide +kernel)
theorem gm_1392 : Cond.methodLink RX7 160 yX7_isSetOf ∈ GT := gt_mem 1392 (by decide +kernel) (by decide +kernel)
theorem gm_1394 : Cond.code yX7_isSetOf cX7_isSetOf 5 (some .boolean) ∈ GT := gt_mem 1394 (by decide +kernel) (by decide +kernel)
theorem gm_1393 : Cond.static yX7_isSetOf ∈ GT := gt_mem 1393 (by decide +kernel) (by decide +kernel)
theorem lk_X7_160 : LKS RX7 160 yX7_isSetOf cX7_isSetOf 5 (some .boolean) 1 := ⟨Or.inl gm_1392, gm_1393, gm_101, gm_1394, by decide +kernel⟩
theorem gm_1399 : Cond.methodLink RX7 164 yX7_firstOf ∈ GT := gt_mem 1399 (by decide +kernel) (by decide +kernel)
theorem gm_1401 : Cond.code yX7_firstOf cX7_firstOf 6 (some .int) ∈ GT := gt_mem 1401 (by decide +kernel) (by decide +kernel)
theorem gm_1400 : Cond.static yX7_firstOf ∈ GT := gt_mem 1400 (by decide +kernel) (by decide +kernel)
theorem lk_X7_164 : LKS RX7 164 yX7_firstOf cX7_firstOf 6 (some .int) 1 := ⟨Or.inl gm_1399, gm_1400, gm_101, gm_1401, by decide +kernel⟩
theorem gm_1179 : Cond.fieldLink RX7 167 RX7 (TX7 21).2.1 (TX7 21).2.2.1 ∈ GT := gt_mem 1179 (by decide +kernel) (by decide +kernel)
theorem fl_X7_167 : FL RX7 167 7 21 := ⟨RX7, TX7, 32, tyX7, rfl, ti_X7, tyX7_ok, nmX7, by decide, rfl, Or.inl gm_1179⟩
theorem fl_X7_48 : FL RX7 48 7 20 := ⟨RX7, TX7, 32, tyX7, rfl, ti_X7, tyX7_ok, nmX7, by decide, rfl, Or.inl gm_1178⟩
theorem gm_1389 : Cond.methodLink RX7 170 yX7_takes ∈ GT := gt_mem 1389 (by decide +kernel) (by decide +kernel)
theorem gm_1391 : Cond.code yX7_takes cX7_takes 6 (some .boolean) ∈ GT := gt_mem 1391 (by decide +kernel) (by decide +kernel)
theorem gm_1390 : Cond.static yX7_takes ∈ GT := gt_mem 1390 (by decide +kernel) (by decide +kernel)
theorem lk_X7_170 : LKS RX7 170 yX7_takes cX7_takes 6 (some .boolean) 2 := ⟨Or.inl gm_1389, gm_1390, gm_101, gm_1391, by decide +kernel⟩
theorem gm_1180 : Cond.fieldLink RX7 174 RX7 (TX7 22).2.1 (TX7 22).2.2.1 ∈ GT := gt_mem 1180 (by decide +kernel) (by decide +kernel)
theorem fp_X7_174 : FP RX7 174 7 22 .int := ⟨RX7, TX7, 32, tyX7, rfl, ti_X7, tyX7_ok, nmX7, by decide, rfl, Or.inl gm_1180, rfl, by decide +kernel⟩
theorem fp_X7_167 : FP RX7 167 7 21 .int := ⟨RX7, TX7, 32, tyX7, rfl, ti_X7, tyX7_ok, nmX7, by decide, rfl, Or.inl gm_1179, rfl, by decide +kernel⟩
theorem gm_1381 : Cond.methodLink RX7 177 yX7_layOutOf ∈ GT := gt_mem 1381 (by decide +kernel) (by decide +kernel)
theorem gm_1384 : Cond.code yX7_layOutOf cX7_layOutOf 2 none ∈ GT := gt_mem 1384 (by decide +kernel) (by decide +kernel)
theorem gm_1383 : Cond.instanceMethod yX7_layOutOf ∈ GT := gt_mem 1383 (by decide +kernel) (by decide +kernel)
theorem gm_59 : Cond.selects RX7 yX7_layOutOf yX7_layOutOf ∈ GT := gt_mem 59 (by decide +kernel) (by decide +kernel)
theorem lk_X7_177 : LKV RX7 177 RX7 yX7_layOutOf cX7_layOutOf 2 none 1 := ⟨Or.inl gm_1381, gm_1383, gm_59, gm_101, gm_1384, by decide +kernel⟩
theorem gm_1182 : Cond.fieldLink RX7 180 RX7 (TX7 24).2.1 (TX7 24).2.2.1 ∈ GT := gt_mem 1182 (by decide +kernel) (by decide +kernel)
theorem fp_X7_180 : FP RX7 180 7 24 .int := ⟨RX7, TX7, 32, tyX7, rfl, ti_X7, tyX7_ok, nmX7, by decide, rfl, Or.inl gm_1182, rfl, by decide +kernel⟩
theorem fl_X7_174 : FL RX7 174 7 22 := ⟨RX7, TX7, 32, tyX7, rfl, ti_X7, tyX7_ok, nmX7, by decide, rfl, Or.inl gm_1180⟩
theorem fl_X7_180 : FL RX7 180 7 24 := ⟨RX7, TX7, 32, tyX7, rfl, ti_X7, tyX7_ok, nmX7, by decide, rfl, Or.inl gm_1182⟩
theorem gm_1385 : Cond.methodLink RX7 183 yX7_nextAdded ∈ GT := gt_mem 1385 (by decide +kernel) (by decide +kernel)
theorem gm_1388 : Cond.code yX7_nextAdded cX7_nextAdded 3 (some .int) ∈ GT := gt_mem 1388 (by decide +kernel) (by decide +kernel)
theorem gm_1387 : Cond.instanceMethod yX7_nextAdded ∈ GT := gt_mem 1387 (by decide +kernel) (by decide +kernel)
theorem gm_60 : Cond.selects RX7 yX7_nextAdded yX7_nextAdded ∈ GT := gt_mem 60 (by decide +kernel) (by decide +kernel)
theorem lk_X7_183 : LKV RX7 183 RX7 yX7_nextAdded cX7_nextAdded 3 (some .int) 0 := ⟨Or.inl gm_1385, gm_1387, gm_60, gm_101, gm_1388, by decide +kernel⟩
theorem gm_1402 : Cond.methodLink RX7 186 yX7_pointsOf ∈ GT := gt_mem 1402 (by decide +kernel) (by decide +kernel)
theorem gm_1404 : Cond.code yX7_pointsOf cX7_pointsOf 4 (some .int) ∈ GT := gt_mem 1404 (by decide +kernel) (by decide +kernel)
theorem gm_1403 : Cond.static yX7_pointsOf ∈ GT := gt_mem 1403 (by decide +kernel) (by decide +kernel)
theorem lk_X7_186 : LKS RX7 186 yX7_pointsOf cX7_pointsOf 4 (some .int) 1 := ⟨Or.inl gm_1402, gm_1403, gm_101, gm_1404, by decide +kernel⟩
theorem gm_1181 : Cond.fieldLink RX7 189 RX7 (TX7 23).2.1 (TX7 23).2.2.1 ∈ GT := gt_mem 1181 (by decide +kernel) (by decide +kernel)
theorem fp_X7_189 : FP RX7 189 7 23 .int := ⟨RX7, TX7, 32, tyX7, rfl, ti_X7, tyX7_ok, nmX7, by decide, rfl, Or.inl gm_1181, rfl, by decide +kernel⟩
theorem gm_1295 : Cond.methodLink RX7 192 yX7_noTurn ∈ GT := gt_mem 1295 (by decide +kernel) (by decide +kernel)
theorem gm_1298 : Cond.code yX7_noTurn cX7_noTurn 2 (some .int) ∈ GT := gt_mem 1298 (by decide +kernel) (by decide +kernel)
theorem gm_1297 : Cond.instanceMethod yX7_noTurn ∈ GT := gt_mem 1297 (by decide +kernel) (by decide +kernel)
theorem gm_40 : Cond.selects RX7 yX7_noTurn yX7_noTurn ∈ GT := gt_mem 40 (by decide +kernel) (by decide +kernel)
theorem lk_X7_192 : LKV RX7 192 RX7 yX7_noTurn cX7_noTurn 2 (some .int) 1 := ⟨Or.inl gm_1295, gm_1297, gm_40, gm_101, gm_1298, by decide +kernel⟩
theorem gm_1323 : Cond.methodLink RX7 195 yX7_restWithoutCard ∈ GT := gt_mem 1323 (by decide +kernel) (by decide +kernel)
theorem gm_1326 : Cond.code yX7_restWithoutCard cX7_restWithoutCard 2 (some .int) ∈ GT := gt_mem 1326 (by decide +kernel) (by decide +kernel)
theorem gm_1325 : Cond.instanceMethod yX7_restWithoutCard ∈ GT := gt_mem 1325 (by decide +kernel) (by decide +kernel)
theorem gm_46 : Cond.selects RX7 yX7_restWithoutCard yX7_restWithoutCard ∈ GT := gt_mem 46 (by decide +kernel) (by decide +kernel)
theorem lk_X7_195 : LKV RX7 195 RX7 yX7_restWithoutCard cX7_restWithoutCard 2 (some .int) 1 := ⟨Or.inl gm_1323, gm_1325, gm_46, gm_101, gm_1326, by decide +kernel⟩
theorem gm_1279 : Cond.methodLink RX7 198 yX7_topOfPile ∈ GT := gt_mem 1279 (by decide +kernel) (by decide +kernel)
theorem gm_1282 : Cond.code yX7_topOfPile cX7_topOfPile 1 (some .int) ∈ GT := gt_mem 1282 (by decide +kernel) (by decide +kernel)
theorem gm_1281 : Cond.instanceMethod yX7_topOfPile ∈ GT := gt_mem 1281 (by decide +kernel) (by decide +kernel)
theorem gm_37 : Cond.selects RX7 yX7_topOfPile yX7_topOfPile ∈ GT := gt_mem 37 (by decide +kernel) (by decide +kernel)
theorem lk_X7_198 : LKV RX7 198 RX7 yX7_topOfPile cX7_topOfPile 1 (some .int) 0 := ⟨Or.inl gm_1279, gm_1281, gm_37, gm_101, gm_1282, by decide +kernel⟩
theorem gm_1303 : Cond.methodLink RX7 201 yX7_putOnPile ∈ GT := gt_mem 1303 (by decide +kernel) (by decide +kernel)
theorem gm_1306 : Cond.code yX7_putOnPile cX7_putOnPile 2 none ∈ GT := gt_mem 1306 (by decide +kernel) (by decide +kernel)
theorem gm_1305 : Cond.instanceMethod yX7_putOnPile ∈ GT := gt_mem 1305 (by decide +kernel) (by decide +kernel)
theorem gm_42 : Cond.selects RX7 yX7_putOnPile yX7_putOnPile ∈ GT := gt_mem 42 (by decide +kernel) (by decide +kernel)
theorem lk_X7_201 : LKV RX7 201 RX7 yX7_putOnPile cX7_putOnPile 2 none 1 := ⟨Or.inl gm_1303, gm_1305, gm_42, gm_101, gm_1306, by decide +kernel⟩
theorem gm_1307 : Cond.methodLink RX7 204 yX7_stocked ∈ GT := gt_mem 1307 (by decide +kernel) (by decide +kernel)
theorem gm_1310 : Cond.code yX7_stocked cX7_stocked 1 (some .int) ∈ GT := gt_mem 1310 (by decide +kernel) (by decide +kernel)
theorem gm_1309 : Cond.instanceMethod yX7_stocked ∈ GT := gt_mem 1309 (by decide +kernel) (by decide +kernel)
theorem gm_43 : Cond.selects RX7 yX7_stocked yX7_stocked ∈ GT := gt_mem 43 (by decide +kernel) (by decide +kernel)
theorem lk_X7_204 : LKV RX7 204 RX7 yX7_stocked cX7_stocked 1 (some .int) 0 := ⟨Or.inl gm_1307, gm_1309, gm_43, gm_101, gm_1310, by decide +kernel⟩
theorem gm_1311 : Cond.methodLink RX7 207 yX7_endRound ∈ GT := gt_mem 1311 (by decide +kernel) (by decide +kernel)
theorem gm_1314 : Cond.code yX7_endRound cX7_endRound 3 none ∈ GT := gt_mem 1314 (by decide +kernel) (by decide +kernel)
theorem gm_1313 : Cond.instanceMethod yX7_endRound ∈ GT := gt_mem 1313 (by decide +kernel) (by decide +kernel)
theorem gm_44 : Cond.selects RX7 yX7_endRound yX7_endRound ∈ GT := gt_mem 44 (by decide +kernel) (by decide +kernel)
theorem lk_X7_207 : LKV RX7 207 RX7 yX7_endRound cX7_endRound 3 none 2 := ⟨Or.inl gm_1311, gm_1313, gm_44, gm_101, gm_1314, by decide +kernel⟩
theorem gm_1369 : Cond.methodLink RX7 211 yX7_findKnock ∈ GT := gt_mem 1369 (by decide +kernel) (by decide +kernel)
theorem gm_1372 : Cond.code yX7_findKnock cX7_findKnock 3 none ∈ GT := gt_mem 1372 (by decide +kernel) (by decide +kernel)
theorem gm_1371 : Cond.instanceMethod yX7_findKnock ∈ GT := gt_mem 1371 (by decide +kernel) (by decide +kernel)
theorem gm_56 : Cond.selects RX7 yX7_findKnock yX7_findKnock ∈ GT := gt_mem 56 (by decide +kernel) (by decide +kernel)
theorem lk_X7_211 : LKV RX7 211 RX7 yX7_findKnock cX7_findKnock 3 none 1 := ⟨Or.inl gm_1369, gm_1371, gm_56, gm_101, gm_1372, by decide +kernel⟩
theorem fl_X7_189 : FL RX7 189 7 23 := ⟨RX7, TX7, 32, tyX7, rfl, ti_X7, tyX7_ok, nmX7, by decide, rfl, Or.inl gm_1181⟩
theorem gm_1413 : Cond.methodLink RX7 214 yX7_isMatchOver ∈ GT := gt_mem 1413 (by decide +kernel) (by decide +kernel)
theorem gm_1416 : Cond.code yX7_isMatchOver cX7_isMatchOver 1 (some .boolean) ∈ GT := gt_mem 1416 (by decide +kernel) (by decide +kernel)
theorem gm_1415 : Cond.instanceMethod yX7_isMatchOver ∈ GT := gt_mem 1415 (by decide +kernel) (by decide +kernel)
theorem gm_62 : Cond.selects RX7 yX7_isMatchOver yX7_isMatchOver ∈ GT := gt_mem 62 (by decide +kernel) (by decide +kernel)
theorem lk_X7_214 : LKV RX7 214 RX7 yX7_isMatchOver cX7_isMatchOver 1 (some .boolean) 0 := ⟨Or.inl gm_1413, gm_1415, gm_62, gm_101, gm_1416, by decide +kernel⟩
theorem gm_1264 : Cond.methodLink RX7 218 yX7_noDraw ∈ GT := gt_mem 1264 (by decide +kernel) (by decide +kernel)
theorem gm_1267 : Cond.code yX7_noDraw cX7_noDraw 1 (some .int) ∈ GT := gt_mem 1267 (by decide +kernel) (by decide +kernel)
theorem gm_1266 : Cond.instanceMethod yX7_noDraw ∈ GT := gt_mem 1266 (by decide +kernel) (by decide +kernel)
theorem gm_34 : Cond.selects RX7 yX7_noDraw yX7_noDraw ∈ GT := gt_mem 34 (by decide +kernel) (by decide +kernel)
theorem lk_X7_218 : LKV RX7 218 RX7 yX7_noDraw cX7_noDraw 1 (some .int) 0 := ⟨Or.inl gm_1264, gm_1266, gm_34, gm_101, gm_1267, by decide +kernel⟩
theorem gm_1268 : Cond.methodLink RX7 221 yX7_keepPast ∈ GT := gt_mem 1268 (by decide +kernel) (by decide +kernel)
theorem gm_1271 : Cond.code yX7_keepPast cX7_keepPast 4 none ∈ GT := gt_mem 1271 (by decide +kernel) (by decide +kernel)
theorem gm_1270 : Cond.instanceMethod yX7_keepPast ∈ GT := gt_mem 1270 (by decide +kernel) (by decide +kernel)
theorem gm_35 : Cond.selects RX7 yX7_keepPast yX7_keepPast ∈ GT := gt_mem 35 (by decide +kernel) (by decide +kernel)
theorem lk_X7_221 : LKV RX7 221 RX7 yX7_keepPast cX7_keepPast 4 none 1 := ⟨Or.inl gm_1268, gm_1270, gm_35, gm_101, gm_1271, by decide +kernel⟩
theorem gm_1275 : Cond.methodLink RX7 225 yX7_drawIt ∈ GT := gt_mem 1275 (by decide +kernel) (by decide +kernel)
theorem gm_1278 : Cond.code yX7_drawIt cX7_drawIt 3 (some .int) ∈ GT := gt_mem 1278 (by decide +kernel) (by decide +kernel)
theorem gm_1277 : Cond.instanceMethod yX7_drawIt ∈ GT := gt_mem 1277 (by decide +kernel) (by decide +kernel)
theorem gm_36 : Cond.selects RX7 yX7_drawIt yX7_drawIt ∈ GT := gt_mem 36 (by decide +kernel) (by decide +kernel)
theorem lk_X7_225 : LKV RX7 225 RX7 yX7_drawIt cX7_drawIt 3 (some .int) 1 := ⟨Or.inl gm_1275, gm_1277, gm_36, gm_101, gm_1278, by decide +kernel⟩
theorem gm_1287 : Cond.methodLink RX7 229 yX7_noCard ∈ GT := gt_mem 1287 (by decide +kernel) (by decide +kernel)
theorem gm_1290 : Cond.code yX7_noCard cX7_noCard 2 (some .boolean) ∈ GT := gt_mem 1290 (by decide +kernel) (by decide +kernel)
theorem gm_1289 : Cond.instanceMethod yX7_noCard ∈ GT := gt_mem 1289 (by decide +kernel) (by decide +kernel)
theorem gm_38 : Cond.selects RX7 yX7_noCard yX7_noCard ∈ GT := gt_mem 38 (by decide +kernel) (by decide +kernel)
theorem lk_X7_229 : LKV RX7 229 RX7 yX7_noCard cX7_noCard 2 (some .boolean) 1 := ⟨Or.inl gm_1287, gm_1289, gm_38, gm_101, gm_1290, by decide +kernel⟩
theorem gm_1299 : Cond.methodLink RX7 232 yX7_dropIt ∈ GT := gt_mem 1299 (by decide +kernel) (by decide +kernel)
theorem gm_1302 : Cond.code yX7_dropIt cX7_dropIt 2 (some .int) ∈ GT := gt_mem 1302 (by decide +kernel) (by decide +kernel)
theorem gm_1301 : Cond.instanceMethod yX7_dropIt ∈ GT := gt_mem 1301 (by decide +kernel) (by decide +kernel)
theorem gm_41 : Cond.selects RX7 yX7_dropIt yX7_dropIt ∈ GT := gt_mem 41 (by decide +kernel) (by decide +kernel)
theorem lk_X7_232 : LKV RX7 232 RX7 yX7_dropIt cX7_dropIt 2 (some .int) 1 := ⟨Or.inl gm_1299, gm_1301, gm_41, gm_101, gm_1302, by decide +kernel⟩
theorem gm_1319 : Cond.methodLink RX7 235 yX7_noKnock ∈ GT := gt_mem 1319 (by decide +kernel) (by decide +kernel)
theorem gm_1322 : Cond.code yX7_noKnock cX7_noKnock 3 (some .int) ∈ GT := gt_mem 1322 (by decide +kernel) (by decide +kernel)
theorem gm_1321 : Cond.instanceMethod yX7_noKnock ∈ GT := gt_mem 1321 (by decide +kernel) (by decide +kernel)
theorem gm_45 : Cond.selects RX7 yX7_noKnock yX7_noKnock ∈ GT := gt_mem 45 (by decide +kernel) (by decide +kernel)
theorem lk_X7_235 : LKV RX7 235 RX7 yX7_noKnock cX7_noKnock 3 (some .int) 1 := ⟨Or.inl gm_1319, gm_1321, gm_45, gm_101, gm_1322, by decide +kernel⟩
theorem gm_1365 : Cond.methodLink RX7 238 yX7_knockIt ∈ GT := gt_mem 1365 (by decide +kernel) (by decide +kernel)
theorem gm_1368 : Cond.code yX7_knockIt cX7_knockIt 4 (some .int) ∈ GT := gt_mem 1368 (by decide +kernel) (by decide +kernel)
theorem gm_1367 : Cond.instanceMethod yX7_knockIt ∈ GT := gt_mem 1367 (by decide +kernel) (by decide +kernel)
theorem gm_55 : Cond.selects RX7 yX7_knockIt yX7_knockIt ∈ GT := gt_mem 55 (by decide +kernel) (by decide +kernel)
theorem lk_X7_238 : LKV RX7 238 RX7 yX7_knockIt cX7_knockIt 4 (some .int) 1 := ⟨Or.inl gm_1365, gm_1367, gm_55, gm_101, gm_1368, by decide +kernel⟩
theorem gm_1409 : Cond.methodLink RX7 241 yX7_noDeal ∈ GT := gt_mem 1409 (by decide +kernel) (by decide +kernel)
theorem gm_1412 : Cond.code yX7_noDeal cX7_noDeal 1 (some .int) ∈ GT := gt_mem 1412 (by decide +kernel) (by decide +kernel)
theorem gm_1411 : Cond.instanceMethod yX7_noDeal ∈ GT := gt_mem 1411 (by decide +kernel) (by decide +kernel)
theorem gm_61 : Cond.selects RX7 yX7_noDeal yX7_noDeal ∈ GT := gt_mem 61 (by decide +kernel) (by decide +kernel)
theorem lk_X7_241 : LKV RX7 241 RX7 yX7_noDeal cX7_noDeal 1 (some .int) 0 := ⟨Or.inl gm_1409, gm_1411, gm_61, gm_101, gm_1412, by decide +kernel⟩
theorem gm_1417 : Cond.methodLink RX7 244 yX7_dealIt ∈ GT := gt_mem 1417 (by decide +kernel) (by decide +kernel)
theorem gm_1420 : Cond.code yX7_dealIt cX7_dealIt 1 (some .int) ∈ GT := gt_mem 1420 (by decide +kernel) (by decide +kernel)
theorem gm_1419 : Cond.instanceMethod yX7_dealIt ∈ GT := gt_mem 1419 (by decide +kernel) (by decide +kernel)
theorem gm_63 : Cond.selects RX7 yX7_dealIt yX7_dealIt ∈ GT := gt_mem 63 (by decide +kernel) (by decide +kernel)
theorem lk_X7_244 : LKV RX7 244 RX7 yX7_dealIt cX7_dealIt 1 (some .int) 0 := ⟨Or.inl gm_1417, gm_1419, gm_63, gm_101, gm_1420, by decide +kernel⟩
theorem gm_1425 : Jvm.Cond.constantLong RX7 247 (20 : Int64) ∈ GT := gt_mem 1425 (by decide +kernel) (by decide +kernel)
theorem gm_1426 : Jvm.Cond.constantLong RX7 249 (500 : Int64) ∈ GT := gt_mem 1426 (by decide +kernel) (by decide +kernel)
theorem zk_65 : ∀ n : Nat, n < 13 → 3 ≤ n → zk shC shW [n, 1] = true ∧ zs shW [n, 1] = true := by decide +kernel
theorem fl_X7_18 : FL RX7 18 7 4 := ⟨RX7, TX7, 32, tyX7, rfl, ti_X7, tyX7_ok, nmX7, by decide, rfl, Or.inl gm_1162⟩
theorem zk_66 : ∀ n : Nat, n < 16 → 14 ≤ n → zk shC shW [1, n] = true ∧ zs shW [1, n] = true := by decide +kernel
theorem fl_X7_21 : FL RX7 21 7 5 := ⟨RX7, TX7, 32, tyX7, rfl, ti_X7, tyX7_ok, nmX7, by decide, rfl, Or.inl gm_1163⟩
theorem zk_67 : ∀ n : Nat, n < 16 → 14 ≤ n → zk shC shW [n, 1] = true ∧ zs shW [n, 1] = true := by decide +kernel
theorem gm_1166 : Cond.fieldLink RX7 251 RX7 (TX7 8).2.1 (TX7 8).2.2.1 ∈ GT := gt_mem 1166 (by decide +kernel) (by decide +kernel)
theorem fl_X7_251 : FL RX7 251 7 8 := ⟨RX7, TX7, 32, tyX7, rfl, ti_X7, tyX7_ok, nmX7, by decide, rfl, Or.inl gm_1166⟩
theorem fl_X7_28 : FL RX7 28 7 7 := ⟨RX7, TX7, 32, tyX7, rfl, ti_X7, tyX7_ok, nmX7, by decide, rfl, Or.inl gm_1165⟩
theorem gm_1185 : Cond.fieldLink RX7 254 RX7 (TX7 27).2.1 (TX7 27).2.2.1 ∈ GT := gt_mem 1185 (by decide +kernel) (by decide +kernel)
theorem fl_X7_254 : FL RX7 254 7 27 := ⟨RX7, TX7, 32, tyX7, rfl, ti_X7, tyX7_ok, nmX7, by decide, rfl, Or.inl gm_1185⟩
theorem fp_X7_254 : FP RX7 254 7 27 .int := ⟨RX7, TX7, 32, tyX7, rfl, ti_X7, tyX7_ok, nmX7, by decide, rfl, Or.inl gm_1185, rfl, by decide +kernel⟩
theorem gm_1186 : Cond.fieldLink RX7 257 RX7 (TX7 28).2.1 (TX7 28).2.2.1 ∈ GT := gt_mem 1186 (by decide +kernel) (by decide +kernel)
theorem fp_X7_257 : FP RX7 257 7 28 .int := ⟨RX7, TX7, 32, tyX7, rfl, ti_X7, tyX7_ok, nmX7, by decide, rfl, Or.inl gm_1186, rfl, by decide +kernel⟩
theorem gm_1451 : Cond.methodLink RX7 263 yX7_letterAt ∈ GT := gt_mem 1451 (by decide +kernel) (by decide +kernel)
theorem gm_1454 : Cond.code yX7_letterAt cX7_letterAt 2 (some .boolean) ∈ GT := gt_mem 1454 (by decide +kernel) (by decide +kernel)
theorem gm_1453 : Cond.instanceMethod yX7_letterAt ∈ GT := gt_mem 1453 (by decide +kernel) (by decide +kernel)
theorem gm_66 : Cond.selects RX7 yX7_letterAt yX7_letterAt ∈ GT := gt_mem 66 (by decide +kernel) (by decide +kernel)
theorem lk_X7_263 : LKV RX7 263 RX7 yX7_letterAt cX7_letterAt 2 (some .boolean) 1 := ⟨Or.inl gm_1451, gm_1453, gm_66, gm_101, gm_1454, by decide +kernel⟩
theorem gm_1455 : Cond.methodLink RX7 266 yX7_digitAt ∈ GT := gt_mem 1455 (by decide +kernel) (by decide +kernel)
theorem gm_1458 : Cond.code yX7_digitAt cX7_digitAt 2 (some .boolean) ∈ GT := gt_mem 1458 (by decide +kernel) (by decide +kernel)
theorem gm_1457 : Cond.instanceMethod yX7_digitAt ∈ GT := gt_mem 1457 (by decide +kernel) (by decide +kernel)
theorem gm_67 : Cond.selects RX7 yX7_digitAt yX7_digitAt ∈ GT := gt_mem 67 (by decide +kernel) (by decide +kernel)
theorem lk_X7_266 : LKV RX7 266 RX7 yX7_digitAt cX7_digitAt 2 (some .boolean) 1 := ⟨Or.inl gm_1455, gm_1457, gm_67, gm_101, gm_1458, by decide +kernel⟩
theorem gm_1187 : Cond.fieldLink RX7 260 RX7 (TX7 29).2.1 (TX7 29).2.2.1 ∈ GT := gt_mem 1187 (by decide +kernel) (by decide +kernel)
theorem fp_X7_260 : FP RX7 260 7 29 .int := ⟨RX7, TX7, 32, tyX7, rfl, ti_X7, tyX7_ok, nmX7, by decide, rfl, Or.inl gm_1187, rfl, by decide +kernel⟩
theorem gm_1188 : Cond.fieldLink RX7 269 RX7 (TX7 30).2.1 (TX7 30).2.2.1 ∈ GT := gt_mem 1188 (by decide +kernel) (by decide +kernel)
theorem fp_X7_269 : FP RX7 269 7 30 .int := ⟨RX7, TX7, 32, tyX7, rfl, ti_X7, tyX7_ok, nmX7, by decide, rfl, Or.inl gm_1188, rfl, by decide +kernel⟩
theorem fl_X7_257 : FL RX7 257 7 28 := ⟨RX7, TX7, 32, tyX7, rfl, ti_X7, tyX7_ok, nmX7, by decide, rfl, Or.inl gm_1186⟩
theorem fl_X7_269 : FL RX7 269 7 30 := ⟨RX7, TX7, 32, tyX7, rfl, ti_X7, tyX7_ok, nmX7, by decide, rfl, Or.inl gm_1188⟩
theorem gm_1189 : Cond.fieldLink RX7 272 RX7 (TX7 31).2.1 (TX7 31).2.2.1 ∈ GT := gt_mem 1189 (by decide +kernel) (by decide +kernel)
theorem fl_X7_272 : FL RX7 272 7 31 := ⟨RX7, TX7, 32, tyX7, rfl, ti_X7, tyX7_ok, nmX7, by decide, rfl, Or.inl gm_1189⟩
theorem gm_1464 : Cond.methodLink RX7 275 yJ_String_length ∈ GT := gt_mem 1464 (by decide +kernel) (by decide +kernel)
theorem lk_X7_275 : LKV RX7 275 "java/lang/String" yJ_String_length cJ_String_length 1 (some .int) 0 := ⟨Or.inl gm_1464, gm_353, gm_354, gm_96, gm_355, by decide +kernel⟩
theorem gm_1465 : Cond.methodLink RX7 280 yJ_String_charAt ∈ GT := gt_mem 1465 (by decide +kernel) (by decide +kernel)
theorem lk_X7_280 : LKV RX7 280 "java/lang/String" yJ_String_charAt cJ_String_charAt 2 (some .char) 1 := ⟨Or.inl gm_1465, gm_363, gm_364, gm_96, gm_365, by decide +kernel⟩
theorem fl_X7_260 : FL RX7 260 7 29 := ⟨RX7, TX7, 32, tyX7, rfl, ti_X7, tyX7_ok, nmX7, by decide, rfl, Or.inl gm_1187⟩
theorem fp_X7_272 : FP RX7 272 7 31 .int := ⟨RX7, TX7, 32, tyX7, rfl, ti_X7, tyX7_ok, nmX7, by decide, rfl, Or.inl gm_1189, rfl, by decide +kernel⟩
theorem gm_1447 : Cond.methodLink RX7 284 yX7_scan ∈ GT := gt_mem 1447 (by decide +kernel) (by decide +kernel)
theorem gm_1450 : Cond.code yX7_scan cX7_scan 1 none ∈ GT := gt_mem 1450 (by decide +kernel) (by decide +kernel)
theorem gm_1449 : Cond.instanceMethod yX7_scan ∈ GT := gt_mem 1449 (by decide +kernel) (by decide +kernel)
theorem gm_65 : Cond.selects RX7 yX7_scan yX7_scan ∈ GT := gt_mem 65 (by decide +kernel) (by decide +kernel)
theorem lk_X7_284 : LKV RX7 284 RX7 yX7_scan cX7_scan 1 none 0 := ⟨Or.inl gm_1447, gm_1449, gm_65, gm_101, gm_1450, by decide +kernel⟩
theorem gm_1466 : Cond.methodLink RX7 287 yX7_wrong ∈ GT := gt_mem 1466 (by decide +kernel) (by decide +kernel)
theorem gm_1469 : Cond.code yX7_wrong cX7_wrong 2 none ∈ GT := gt_mem 1469 (by decide +kernel) (by decide +kernel)
theorem gm_1468 : Cond.instanceMethod yX7_wrong ∈ GT := gt_mem 1468 (by decide +kernel) (by decide +kernel)
theorem gm_69 : Cond.selects RX7 yX7_wrong yX7_wrong ∈ GT := gt_mem 69 (by decide +kernel) (by decide +kernel)
theorem lk_X7_287 : LKV RX7 287 RX7 yX7_wrong cX7_wrong 2 none 1 := ⟨Or.inl gm_1466, gm_1468, gm_69, gm_101, gm_1469, by decide +kernel⟩
theorem gm_1475 : Cond.methodLink RX7 290 yX7_bounds ∈ GT := gt_mem 1475 (by decide +kernel) (by decide +kernel)
theorem gm_1478 : Cond.code yX7_bounds cX7_bounds 3 none ∈ GT := gt_mem 1478 (by decide +kernel) (by decide +kernel)
theorem gm_1477 : Cond.instanceMethod yX7_bounds ∈ GT := gt_mem 1477 (by decide +kernel) (by decide +kernel)
theorem gm_71 : Cond.selects RX7 yX7_bounds yX7_bounds ∈ GT := gt_mem 71 (by decide +kernel) (by decide +kernel)
theorem lk_X7_290 : LKV RX7 290 RX7 yX7_bounds cX7_bounds 3 none 2 := ⟨Or.inl gm_1475, gm_1477, gm_71, gm_101, gm_1478, by decide +kernel⟩
theorem gm_1479 : Cond.methodLink RX7 293 yX7_goOn ∈ GT := gt_mem 1479 (by decide +kernel) (by decide +kernel)
theorem gm_1482 : Cond.code yX7_goOn cX7_goOn 1 none ∈ GT := gt_mem 1482 (by decide +kernel) (by decide +kernel)
theorem gm_1481 : Cond.instanceMethod yX7_goOn ∈ GT := gt_mem 1481 (by decide +kernel) (by decide +kernel)
theorem gm_72 : Cond.selects RX7 yX7_goOn yX7_goOn ∈ GT := gt_mem 72 (by decide +kernel) (by decide +kernel)
theorem lk_X7_293 : LKV RX7 293 RX7 yX7_goOn cX7_goOn 1 none 0 := ⟨Or.inl gm_1479, gm_1481, gm_72, gm_101, gm_1482, by decide +kernel⟩
theorem gm_1460 : Cond.methodLink RX7 297 yX7_isWord ∈ GT := gt_mem 1460 (by decide +kernel) (by decide +kernel)
theorem gm_1463 : Cond.code yX7_isWord cX7_isWord 4 (some .boolean) ∈ GT := gt_mem 1463 (by decide +kernel) (by decide +kernel)
theorem gm_1462 : Cond.instanceMethod yX7_isWord ∈ GT := gt_mem 1462 (by decide +kernel) (by decide +kernel)
theorem gm_68 : Cond.selects RX7 yX7_isWord yX7_isWord ∈ GT := gt_mem 68 (by decide +kernel) (by decide +kernel)
theorem lk_X7_297 : LKV RX7 297 RX7 yX7_isWord cX7_isWord 4 (some .boolean) 1 := ⟨Or.inl gm_1460, gm_1462, gm_68, gm_101, gm_1463, by decide +kernel⟩
theorem gm_1483 : Cond.methodLink RX7 306 yX7_ends ∈ GT := gt_mem 1483 (by decide +kernel) (by decide +kernel)
theorem gm_1486 : Cond.code yX7_ends cX7_ends 2 (some .boolean) ∈ GT := gt_mem 1486 (by decide +kernel) (by decide +kernel)
theorem gm_1485 : Cond.instanceMethod yX7_ends ∈ GT := gt_mem 1485 (by decide +kernel) (by decide +kernel)
theorem gm_73 : Cond.selects RX7 yX7_ends yX7_ends ∈ GT := gt_mem 73 (by decide +kernel) (by decide +kernel)
theorem lk_X7_306 : LKV RX7 306 RX7 yX7_ends cX7_ends 2 (some .boolean) 1 := ⟨Or.inl gm_1483, gm_1485, gm_73, gm_101, gm_1486, by decide +kernel⟩
theorem gm_1499 : Cond.methodLink RX7 323 yX7_cardHere ∈ GT := gt_mem 1499 (by decide +kernel) (by decide +kernel)
theorem gm_1502 : Cond.code yX7_cardHere cX7_cardHere 2 (some .int) ∈ GT := gt_mem 1502 (by decide +kernel) (by decide +kernel)
theorem gm_1501 : Cond.instanceMethod yX7_cardHere ∈ GT := gt_mem 1501 (by decide +kernel) (by decide +kernel)
theorem gm_76 : Cond.selects RX7 yX7_cardHere yX7_cardHere ∈ GT := gt_mem 76 (by decide +kernel) (by decide +kernel)
theorem lk_X7_323 : LKV RX7 323 RX7 yX7_cardHere cX7_cardHere 2 (some .int) 0 := ⟨Or.inl gm_1499, gm_1501, gm_76, gm_101, gm_1502, by decide +kernel⟩
theorem fl_X7_25 : FL RX7 25 7 6 := ⟨RX7, TX7, 32, tyX7, rfl, ti_X7, tyX7_ok, nmX7, by decide, rfl, Or.inl gm_1164⟩
theorem zk_68 : zk shC shW [1, 17] = true := by decide +kernel
theorem zs_68 : zs shW [1, 17] = true := by decide +kernel
abbrev zl_68 : List Nat := [1, 17]
theorem gm_1470 : Jvm.Cond.constant RX7 301 (999999999 : Int32) ∈ GT := gt_mem 1470 (by decide +kernel) (by decide +kernel)
theorem gm_1471 : Cond.methodLink RX7 302 yX7_readNumber ∈ GT := gt_mem 1471 (by decide +kernel) (by decide +kernel)
theorem gm_1474 : Cond.code yX7_readNumber cX7_readNumber 4 (some .int) ∈ GT := gt_mem 1474 (by decide +kernel) (by decide +kernel)
theorem gm_1473 : Cond.instanceMethod yX7_readNumber ∈ GT := gt_mem 1473 (by decide +kernel) (by decide +kernel)
theorem gm_70 : Cond.selects RX7 yX7_readNumber yX7_readNumber ∈ GT := gt_mem 70 (by decide +kernel) (by decide +kernel)
theorem lk_X7_302 : LKV RX7 302 RX7 yX7_readNumber cX7_readNumber 4 (some .int) 2 := ⟨Or.inl gm_1471, gm_1473, gm_70, gm_101, gm_1474, by decide +kernel⟩
theorem gm_1492 : Cond.methodLink RX7 314 yX7_move ∈ GT := gt_mem 1492 (by decide +kernel) (by decide +kernel)
theorem gm_1495 : Cond.code yX7_move cX7_move 4 none ∈ GT := gt_mem 1495 (by decide +kernel) (by decide +kernel)
theorem gm_1494 : Cond.instanceMethod yX7_move ∈ GT := gt_mem 1494 (by decide +kernel) (by decide +kernel)
theorem gm_75 : Cond.selects RX7 yX7_move yX7_move ∈ GT := gt_mem 75 (by decide +kernel) (by decide +kernel)
theorem lk_X7_314 : LKV RX7 314 RX7 yX7_move cX7_move 4 none 0 := ⟨Or.inl gm_1492, gm_1494, gm_75, gm_101, gm_1495, by decide +kernel⟩
theorem fp_X7_251 : FP RX7 251 7 8 .int := ⟨RX7, TX7, 32, tyX7, rfl, ti_X7, tyX7_ok, nmX7, by decide, rfl, Or.inl gm_1166, rfl, by decide +kernel⟩
theorem zk_69 : zk shC shW [17, 1] = true := by decide +kernel
theorem zs_69 : zs shW [17, 1] = true := by decide +kernel
abbrev zl_69 : List Nat := [17, 1]
theorem gm_1488 : Cond.methodLink RX7 311 yX7_readDeck ∈ GT := gt_mem 1488 (by decide +kernel) (by decide +kernel)
theorem gm_1491 : Cond.code yX7_readDeck cX7_readDeck 2 none ∈ GT := gt_mem 1491 (by decide +kernel) (by decide +kernel)
theorem gm_1490 : Cond.instanceMethod yX7_readDeck ∈ GT := gt_mem 1490 (by decide +kernel) (by decide +kernel)
theorem gm_74 : Cond.selects RX7 yX7_readDeck yX7_readDeck ∈ GT := gt_mem 74 (by decide +kernel) (by decide +kernel)
theorem lk_X7_311 : LKV RX7 311 RX7 yX7_readDeck cX7_readDeck 2 none 0 := ⟨Or.inl gm_1488, gm_1490, gm_74, gm_101, gm_1491, by decide +kernel⟩
theorem gm_1509 : Cond.methodLink RX7 330 yX7_type ∈ GT := gt_mem 1509 (by decide +kernel) (by decide +kernel)
theorem gm_1512 : Cond.code yX7_type cX7_type 3 none ∈ GT := gt_mem 1512 (by decide +kernel) (by decide +kernel)
theorem gm_1511 : Cond.instanceMethod yX7_type ∈ GT := gt_mem 1511 (by decide +kernel) (by decide +kernel)
theorem gm_77 : Cond.selects RX7 yX7_type yX7_type ∈ GT := gt_mem 77 (by decide +kernel) (by decide +kernel)
theorem lk_X7_330 : LKV RX7 330 RX7 yX7_type cX7_type 3 none 1 := ⟨Or.inl gm_1509, gm_1511, gm_77, gm_101, gm_1512, by decide +kernel⟩
theorem gm_1521 : Jvm.Cond.constantLong RX7 333 (16 : Int64) ∈ GT := gt_mem 1521 (by decide +kernel) (by decide +kernel)
theorem gm_1539 : Cond.methodLink RX7 335 yX7_isWrapped ∈ GT := gt_mem 1539 (by decide +kernel) (by decide +kernel)
theorem gm_1542 : Cond.code yX7_isWrapped cX7_isWrapped 4 (some .boolean) ∈ GT := gt_mem 1542 (by decide +kernel) (by decide +kernel)
theorem gm_1541 : Cond.instanceMethod yX7_isWrapped ∈ GT := gt_mem 1541 (by decide +kernel) (by decide +kernel)
theorem gm_80 : Cond.selects RX7 yX7_isWrapped yX7_isWrapped ∈ GT := gt_mem 80 (by decide +kernel) (by decide +kernel)
theorem lk_X7_335 : LKV RX7 335 RX7 yX7_isWrapped cX7_isWrapped 4 (some .boolean) 1 := ⟨Or.inl gm_1539, gm_1541, gm_80, gm_101, gm_1542, by decide +kernel⟩
theorem gm_1530 : Cond.methodLink RX7 338 yX7_noPlayer ∈ GT := gt_mem 1530 (by decide +kernel) (by decide +kernel)
theorem gm_1533 : Cond.code yX7_noPlayer cX7_noPlayer 2 (some .boolean) ∈ GT := gt_mem 1533 (by decide +kernel) (by decide +kernel)
theorem gm_1532 : Cond.instanceMethod yX7_noPlayer ∈ GT := gt_mem 1532 (by decide +kernel) (by decide +kernel)
theorem gm_78 : Cond.selects RX7 yX7_noPlayer yX7_noPlayer ∈ GT := gt_mem 78 (by decide +kernel) (by decide +kernel)
theorem lk_X7_338 : LKV RX7 338 RX7 yX7_noPlayer cX7_noPlayer 2 (some .boolean) 1 := ⟨Or.inl gm_1530, gm_1532, gm_78, gm_101, gm_1533, by decide +kernel⟩
theorem gm_1534 : Jvm.Cond.constantLong RX7 341 (7 : Int64) ∈ GT := gt_mem 1534 (by decide +kernel) (by decide +kernel)
theorem gm_1535 : Cond.methodLink RX7 343 yX7_countMelds ∈ GT := gt_mem 1535 (by decide +kernel) (by decide +kernel)
theorem gm_1538 : Cond.code yX7_countMelds cX7_countMelds 5 (some .int) ∈ GT := gt_mem 1538 (by decide +kernel) (by decide +kernel)
theorem gm_1537 : Cond.instanceMethod yX7_countMelds ∈ GT := gt_mem 1537 (by decide +kernel) (by decide +kernel)
theorem gm_79 : Cond.selects RX7 yX7_countMelds yX7_countMelds ∈ GT := gt_mem 79 (by decide +kernel) (by decide +kernel)
theorem lk_X7_343 : LKV RX7 343 RX7 yX7_countMelds cX7_countMelds 5 (some .int) 1 := ⟨Or.inl gm_1535, gm_1537, gm_79, gm_101, gm_1538, by decide +kernel⟩
theorem gm_1551 : Jvm.Cond.constantLong RX7 346 (51 : Int64) ∈ GT := gt_mem 1551 (by decide +kernel) (by decide +kernel)
theorem gm_1560 : Jvm.Cond.constantLong RX7 348 (3 : Int64) ∈ GT := gt_mem 1560 (by decide +kernel) (by decide +kernel)
theorem gm_1577 : Jvm.Cond.constant RX7 352 (2147483647 : Int32) ∈ GT := gt_mem 1577 (by decide +kernel) (by decide +kernel)
theorem gm_1569 : Cond.methodLink RX7 353 yX7_canDrop ∈ GT := gt_mem 1569 (by decide +kernel) (by decide +kernel)
theorem gm_1572 : Cond.code yX7_canDrop cX7_canDrop 1 (some .boolean) ∈ GT := gt_mem 1572 (by decide +kernel) (by decide +kernel)
theorem gm_1571 : Cond.instanceMethod yX7_canDrop ∈ GT := gt_mem 1571 (by decide +kernel) (by decide +kernel)
theorem gm_81 : Cond.selects RX7 yX7_canDrop yX7_canDrop ∈ GT := gt_mem 81 (by decide +kernel) (by decide +kernel)
theorem lk_X7_353 : LKV RX7 353 RX7 yX7_canDrop cX7_canDrop 1 (some .boolean) 0 := ⟨Or.inl gm_1569, gm_1571, gm_81, gm_101, gm_1572, by decide +kernel⟩
theorem gm_1573 : Cond.methodLink RX7 356 yX7_leastBehind ∈ GT := gt_mem 1573 (by decide +kernel) (by decide +kernel)
theorem gm_1576 : Cond.code yX7_leastBehind cX7_leastBehind 6 (some .int) ∈ GT := gt_mem 1576 (by decide +kernel) (by decide +kernel)
theorem gm_1575 : Cond.instanceMethod yX7_leastBehind ∈ GT := gt_mem 1575 (by decide +kernel) (by decide +kernel)
theorem gm_82 : Cond.selects RX7 yX7_leastBehind yX7_leastBehind ∈ GT := gt_mem 82 (by decide +kernel) (by decide +kernel)
theorem lk_X7_356 : LKV RX7 356 RX7 yX7_leastBehind cX7_leastBehind 6 (some .int) 1 := ⟨Or.inl gm_1573, gm_1575, gm_82, gm_101, gm_1576, by decide +kernel⟩
theorem gm_1602 : Jvm.Cond.constantLong RX7 359 (8192 : Int64) ∈ GT := gt_mem 1602 (by decide +kernel) (by decide +kernel)
theorem gm_1598 : Jvm.Cond.constantLong RX7 361 (4503599627370495 : Int64) ∈ GT := gt_mem 1598 (by decide +kernel) (by decide +kernel)
theorem gm_1599 : Cond.methodLink RX7 363 yX7_kindOf ∈ GT := gt_mem 1599 (by decide +kernel) (by decide +kernel)
theorem gm_1601 : Cond.code yX7_kindOf cX7_kindOf 10 (some .int) ∈ GT := gt_mem 1601 (by decide +kernel) (by decide +kernel)
theorem gm_1600 : Cond.static yX7_kindOf ∈ GT := gt_mem 1600 (by decide +kernel) (by decide +kernel)
theorem lk_X7_363 : LKS RX7 363 yX7_kindOf cX7_kindOf 10 (some .int) 1 := ⟨Or.inl gm_1599, gm_1600, gm_101, gm_1601, by decide +kernel⟩
theorem gm_1607 : Cond.methodLink RX7 366 yX7_size ∈ GT := gt_mem 1607 (by decide +kernel) (by decide +kernel)
theorem gm_1609 : Cond.code yX7_size cX7_size 1 (some .int) ∈ GT := gt_mem 1609 (by decide +kernel) (by decide +kernel)
theorem gm_1608 : Cond.static yX7_size ∈ GT := gt_mem 1608 (by decide +kernel) (by decide +kernel)
theorem lk_X7_366 : LKS RX7 366 yX7_size cX7_size 1 (some .int) 1 := ⟨Or.inl gm_1607, gm_1608, gm_101, gm_1609, by decide +kernel⟩
theorem gm_1610 : Cond.methodLink RX7 369 yX7_wrongHand ∈ GT := gt_mem 1610 (by decide +kernel) (by decide +kernel)
theorem gm_1613 : Cond.code yX7_wrongHand cX7_wrongHand 5 (some .int) ∈ GT := gt_mem 1613 (by decide +kernel) (by decide +kernel)
theorem gm_1612 : Cond.instanceMethod yX7_wrongHand ∈ GT := gt_mem 1612 (by decide +kernel) (by decide +kernel)
theorem gm_83 : Cond.selects RX7 yX7_wrongHand yX7_wrongHand ∈ GT := gt_mem 83 (by decide +kernel) (by decide +kernel)
theorem lk_X7_369 : LKV RX7 369 RX7 yX7_wrongHand cX7_wrongHand 5 (some .int) 1 := ⟨Or.inl gm_1610, gm_1612, gm_83, gm_101, gm_1613, by decide +kernel⟩
theorem gm_1618 : Jvm.Cond.constantDouble RX7 372 (4611686018427387904 : UInt64) ∈ GT := gt_mem 1618 (by decide +kernel) (by decide +kernel)
theorem fl_X7_31 : FL RX7 31 7 9 := ⟨RX7, TX7, 32, tyX7, rfl, ti_X7, tyX7_ok, nmX7, by decide, rfl, Or.inl gm_1167⟩
theorem gm_1168 : Cond.fieldLink RX7 374 RX7 (TX7 10).2.1 (TX7 10).2.2.1 ∈ GT := gt_mem 1168 (by decide +kernel) (by decide +kernel)
theorem fl_X7_374 : FL RX7 374 7 10 := ⟨RX7, TX7, 32, tyX7, rfl, ti_X7, tyX7_ok, nmX7, by decide, rfl, Or.inl gm_1168⟩
theorem fp_X7_374 : FP RX7 374 7 10 .int := ⟨RX7, TX7, 32, tyX7, rfl, ti_X7, tyX7_ok, nmX7, by decide, rfl, Or.inl gm_1168, rfl, by decide +kernel⟩
theorem gm_1627 : Cond.methodLink RX7 377 yX7_say ∈ GT := gt_mem 1627 (by decide +kernel) (by decide +kernel)
theorem gm_1630 : Cond.code yX7_say cX7_say 2 none ∈ GT := gt_mem 1630 (by decide +kernel) (by decide +kernel)
theorem gm_1629 : Cond.instanceMethod yX7_say ∈ GT := gt_mem 1629 (by decide +kernel) (by decide +kernel)
theorem gm_84 : Cond.selects RX7 yX7_say yX7_say ∈ GT := gt_mem 84 (by decide +kernel) (by decide +kernel)
theorem lk_X7_377 : LKV RX7 377 RX7 yX7_say cX7_say 2 none 1 := ⟨Or.inl gm_1627, gm_1629, gm_84, gm_101, gm_1630, by decide +kernel⟩
theorem gm_1635 : Cond.methodLink RX7 384 yX7_sayCard ∈ GT := gt_mem 1635 (by decide +kernel) (by decide +kernel)
theorem gm_1638 : Cond.code yX7_sayCard cX7_sayCard 3 none ∈ GT := gt_mem 1638 (by decide +kernel) (by decide +kernel)
theorem gm_1637 : Cond.instanceMethod yX7_sayCard ∈ GT := gt_mem 1637 (by decide +kernel) (by decide +kernel)
theorem gm_86 : Cond.selects RX7 yX7_sayCard yX7_sayCard ∈ GT := gt_mem 86 (by decide +kernel) (by decide +kernel)
theorem lk_X7_384 : LKV RX7 384 RX7 yX7_sayCard cX7_sayCard 3 none 2 := ⟨Or.inl gm_1635, gm_1637, gm_86, gm_101, gm_1638, by decide +kernel⟩
theorem gm_1641 : Cond.methodLink RX7 392 yX7_sayRun ∈ GT := gt_mem 1641 (by decide +kernel) (by decide +kernel)
theorem gm_1644 : Cond.code yX7_sayRun cX7_sayRun 6 none ∈ GT := gt_mem 1644 (by decide +kernel) (by decide +kernel)
theorem gm_1643 : Cond.instanceMethod yX7_sayRun ∈ GT := gt_mem 1643 (by decide +kernel) (by decide +kernel)
theorem gm_87 : Cond.selects RX7 yX7_sayRun yX7_sayRun ∈ GT := gt_mem 87 (by decide +kernel) (by decide +kernel)
theorem lk_X7_392 : LKV RX7 392 RX7 yX7_sayRun cX7_sayRun 6 none 1 := ⟨Or.inl gm_1641, gm_1643, gm_87, gm_101, gm_1644, by decide +kernel⟩
theorem gm_1631 : Cond.methodLink RX7 388 yX7_sayAscending ∈ GT := gt_mem 1631 (by decide +kernel) (by decide +kernel)
theorem gm_1634 : Cond.code yX7_sayAscending cX7_sayAscending 5 none ∈ GT := gt_mem 1634 (by decide +kernel) (by decide +kernel)
theorem gm_1633 : Cond.instanceMethod yX7_sayAscending ∈ GT := gt_mem 1633 (by decide +kernel) (by decide +kernel)
theorem gm_85 : Cond.selects RX7 yX7_sayAscending yX7_sayAscending ∈ GT := gt_mem 85 (by decide +kernel) (by decide +kernel)
theorem lk_X7_388 : LKV RX7 388 RX7 yX7_sayAscending cX7_sayAscending 5 none 1 := ⟨Or.inl gm_1631, gm_1633, gm_85, gm_101, gm_1634, by decide +kernel⟩
