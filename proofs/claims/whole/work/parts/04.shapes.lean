/-! the cells of the world, by number: kind (0 int[], 1 long[], 2 byte[], 3 object), length or number of the class, fields (0 int, 1 long, 2 a reference to the cell) -/
abbrev Shp : Type := Nat × Nat × List (Nat × Int)
def shps : List Shp := [
  (3, 10, [(2, 1), (2, 2), (2, 3), (2, 4), (2, 5), (2, 6), (2, 7), (2, 8), (2, 9), (2, 10)]),
  (3, 3, [(0, 0), (2, 12), (2, 13)]),
  (3, 6, [(0, 0), (0, 0), (0, 0), (0, 0), (0, 0), (0, 0), (2, 14)]),
  (3, 0, [(0, 0), (2, 15), (2, 16), (2, 17), (2, 18), (2, 19), (2, 20), (0, 0)]),
  (3, 8, [(0, 0), (0, 0), (2, 21), (2, 22), (2, 23), (2, 24), (2, 25), (2, 26), (2, 27), (2, 28), (2, 29), (2, 30), (2, 31), (2, 32), (2, 33), (2, 34)]),
  (3, 9, [(0, 0), (0, 0), (2, 35), (2, 36), (0, 0), (2, 37), (2, 38), (2, 39), (2, 40), (2, 41), (2, 42)]),
  (3, 7, [(0, 0), (2, 43), (2, 44), (2, 45), (2, 46), (2, 47)]),
  (3, 5, [(0, 0), (2, 48), (2, 49), (0, 0), (1, 0), (0, 0), (2, 50)]),
  (3, 2, [(0, 0), (2, 51), (0, 0), (0, 0), (2, 52), (2, 53), (2, 54), (2, 55), (2, 56), (2, 57), (2, 58), (2, 59), (2, 60), (2, 61)]),
  (3, 4, [(0, 0), (1, 0), (1, 0), (2, 62), (2, 63), (2, 64)]),
  (3, 1, [(0, 0), (0, 0), (2, 65), (2, 66), (2, 67), (0, 0)]),
  (3, 11, [(0, 0), (2, 68), (0, 0), (2, 69), (0, 0), (2, 70), (2, 71), (2, 72), (2, 73), (0, 0), (2, 74), (2, 75), (2, 76), (0, 0), (2, 77), (0, 0), (2, 78), (2, 79), (0, 0), (0, 0), (0, 0), (2, 80), (2, 81), (2, 82), (0, 0), (0, 0), (2, 83), (0, 0), (2, 84), (2, 85), (0, 0), (2, 86), (0, 0), (0, 0), (0, 0), (0, 0), (0, 0), (0, 0), (0, 0), (2, 87), (2, 88), (0, 0), (2, 89), (2, 90), (2, 91), (2, 92), (2, 93), (2, 94), (2, 95), (2, 96), (2, 97), (1, 0), (0, 0), (2, 98), (2, 99), (2, 100), (2, 101), (2, 102), (1, 0), (1, 0), (2, 103), (0, 0), (2, 104), (2, 105), (1, 0)]),
  (0, 64, []),
  (0, 64, []),
  (0, 40, []),
  (0, 20, []),
  (0, 20, []),
  (0, 20, []),
  (0, 20, []),
  (0, 64, []),
  (0, 8, []),
  (0, 12, []),
  (0, 12, []),
  (0, 12, []),
  (0, 12, []),
  (0, 12, []),
  (0, 12, []),
  (0, 12, []),
  (0, 12, []),
  (0, 12, []),
  (0, 12, []),
  (0, 12, []),
  (0, 12, []),
  (0, 12, []),
  (0, 8, []),
  (0, 8, []),
  (0, 8, []),
  (0, 30, []),
  (0, 30, []),
  (0, 30, []),
  (0, 30, []),
  (0, 30, []),
  (0, 30, []),
  (0, 16, []),
  (0, 16, []),
  (0, 16, []),
  (0, 16, []),
  (0, 16, []),
  (0, 64, []),
  (0, 8, []),
  (0, 64, []),
  (0, 24, []),
  (0, 24, []),
  (0, 24, []),
  (0, 24, []),
  (0, 24, []),
  (0, 576, []),
  (0, 576, []),
  (0, 24, []),
  (0, 24, []),
  (0, 24, []),
  (0, 24, []),
  (0, 5, []),
  (0, 5, []),
  (1, 6, []),
  (0, 20, []),
  (0, 20, []),
  (0, 4, []),
  (0, 64, []),
  (2, 40, []),
  (0, 20, []),
  (0, 20, []),
  (0, 20, []),
  (0, 20, []),
  (0, 72, []),
  (0, 36, []),
  (0, 48, []),
  (0, 180, []),
  (0, 8, []),
  (0, 8, []),
  (0, 16, []),
  (0, 64, []),
  (0, 8, []),
  (0, 24, []),
  (0, 5, []),
  (0, 5, []),
  (0, 64, []),
  (0, 9, []),
  (0, 20, []),
  (0, 84, []),
  (0, 84, []),
  (0, 84, []),
  (0, 84, []),
  (0, 84, []),
  (0, 84, []),
  (0, 16, []),
  (0, 16, []),
  (0, 16, []),
  (0, 576, []),
  (0, 24, []),
  (0, 24, []),
  (0, 24, []),
  (1, 6, []),
  (0, 64, []),
  (0, 4, []),
  (0, 20, [])]
-- cell 0: WagonWays
-- cell 1: Land
-- cell 2: Page
-- cell 3: Blocks
-- cell 4: Timetable
-- cell 5: Traffic
-- cell 6: Row
-- cell 7: Nets
-- cell 8: Empties
-- cell 9: Legs
-- cell 10: Detour
-- cell 11: M
-- cell 12: Land.miles
-- cell 13: Land.nearest
-- cell 14: Page.codes
-- cell 15: Blocks.from
-- cell 16: Blocks.to
-- cell 17: Blocks.takes
-- cell 18: Blocks.rank
-- cell 19: Blocks.chosen
-- cell 20: Blocks.stops
-- cell 21: Timetable.blockOne
-- cell 22: Timetable.blockTwo
-- cell 23: Timetable.from
-- cell 24: Timetable.to
-- cell 25: Timetable.takes
-- cell 26: Timetable.length
-- cell 27: Timetable.days
-- cell 28: Timetable.hour
-- cell 29: Timetable.leftMany
-- cell 30: Timetable.tookMany
-- cell 31: Timetable.shutMany
-- cell 32: Timetable.leftLast
-- cell 33: Timetable.leftBefore
-- cell 34: Timetable.crewsFree
-- cell 35: Traffic.closedFrom
-- cell 36: Traffic.closedTo
-- cell 37: Traffic.at
-- cell 38: Traffic.goal
-- cell 39: Traffic.inTrain
-- cell 40: Traffic.since
-- cell 41: Traffic.rides
-- cell 42: Traffic.done
-- cell 43: Row.numbers
-- cell 44: Row.standing
-- cell 45: Row.marks
-- cell 46: Row.wanted
-- cell 47: Row.rolled
-- cell 48: Nets.loads
-- cell 49: Nets.trackCount
-- cell 50: Nets.lengths
-- cell 51: Empties.over
-- cell 52: Empties.giver
-- cell 53: Empties.taker
-- cell 54: Empties.left
-- cell 55: Empties.wanted
-- cell 56: Empties.fare
-- cell 57: Empties.sent
-- cell 58: Empties.giverCost
-- cell 59: Empties.takerCost
-- cell 60: Empties.giverFrom
-- cell 61: Empties.takerFrom
-- cell 62: Legs.hours
-- cell 63: Legs.tenths
-- cell 64: Legs.missing
-- cell 65: Detour.best
-- cell 66: Detour.target
-- cell 67: Detour.turned
-- cell 68: M.miles
-- cell 69: M.page
-- cell 70: M.madeAt
-- cell 71: M.madeFor
-- cell 72: M.takesOf
-- cell 73: M.ranks
-- cell 74: M.trainOf
-- cell 75: M.trainTold
-- cell 76: M.comesIn
-- cell 77: M.wagonOf
-- cell 78: M.closedFrom
-- cell 79: M.closedTo
-- cell 80: M.rowMark
-- cell 81: M.loads
-- cell 82: M.trackOf
-- cell 83: M.over
-- cell 84: M.legHours
-- cell 85: M.legTenths
-- cell 86: M.least
-- cell 87: M.wayOf
-- cell 88: M.nowFor
-- cell 89: M.dutyTrain
-- cell 90: M.dutyBegin
-- cell 91: M.behind
-- cell 92: M.aheadOf
-- cell 93: M.from
-- cell 94: M.line
-- cell 95: M.numbers
-- cell 96: M.standing
-- cell 97: M.rolled
-- cell 98: M.flow
-- cell 99: M.left
-- cell 100: M.price
-- cell 101: M.came
-- cell 102: M.misses
-- cell 103: M.into
-- cell 104: M.closedBlock
-- cell 105: M.bestFor
