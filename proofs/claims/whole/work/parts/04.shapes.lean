/-! the cells of the world, by number: kind (0 int[], 1 long[], 2 byte[], 3 object), length or number of the class, fields (0 int, 1 long, 2 a reference to the cell) -/
abbrev Shp : Type := Nat × Nat × List (Nat × Int)
def shps : List Shp := [
  (3, 10, [(2, 1), (2, 4), (2, 6), (2, 13), (2, 28), (2, 37), (2, 43), (2, 47), (2, 59), (2, 63)]),
  (3, 3, [(0, 0), (2, 2), (2, 3)]),
  (0, 64, []),
  (0, 64, []),
  (3, 6, [(0, 0), (0, 0), (0, 0), (0, 0), (0, 0), (0, 0), (2, 5)]),
  (0, 40, []),
  (3, 0, [(0, 0), (2, 7), (2, 8), (2, 9), (2, 10), (2, 11), (2, 12), (0, 0)]),
  (0, 20, []),
  (0, 20, []),
  (0, 20, []),
  (0, 20, []),
  (0, 64, []),
  (0, 8, []),
  (3, 8, [(0, 0), (0, 0), (2, 14), (2, 15), (2, 16), (2, 17), (2, 18), (2, 19), (2, 20), (2, 21), (2, 22), (2, 23), (2, 24), (2, 25), (2, 26), (2, 27)]),
  (0, 12, []),
  (0, 12, []),
  (0, 12, []),
  (0, 12, []),
  (0, 12, []),
  (0, 12, []),
  (0, 12, []),
  (0, 12, []),
  (0, 12, []),
  (0, 12, []),
  (0, 12, []),
  (0, 12, []),
  (0, 12, []),
  (0, 8, []),
  (3, 9, [(0, 0), (0, 0), (2, 29), (2, 30), (0, 0), (2, 31), (2, 32), (2, 33), (2, 34), (2, 35), (2, 36)]),
  (0, 8, []),
  (0, 8, []),
  (0, 30, []),
  (0, 30, []),
  (0, 30, []),
  (0, 30, []),
  (0, 30, []),
  (0, 30, []),
  (3, 7, [(0, 0), (2, 38), (2, 39), (2, 40), (2, 41), (2, 42)]),
  (0, 16, []),
  (0, 16, []),
  (0, 16, []),
  (0, 16, []),
  (0, 16, []),
  (3, 5, [(0, 0), (2, 44), (2, 45), (0, 0), (1, 0), (0, 0), (2, 46)]),
  (0, 64, []),
  (0, 8, []),
  (0, 64, []),
  (3, 2, [(0, 0), (2, 48), (0, 0), (0, 0), (2, 49), (2, 50), (2, 51), (2, 52), (2, 53), (2, 54), (2, 55), (2, 56), (2, 57), (2, 58)]),
  (0, 24, []),
  (0, 24, []),
  (0, 24, []),
  (0, 24, []),
  (0, 24, []),
  (0, 576, []),
  (0, 576, []),
  (0, 24, []),
  (0, 24, []),
  (0, 24, []),
  (0, 24, []),
  (3, 4, [(0, 0), (1, 0), (1, 0), (2, 60), (2, 61), (2, 62)]),
  (0, 5, []),
  (0, 5, []),
  (1, 6, []),
  (3, 1, [(0, 0), (0, 0), (2, 64), (2, 65), (2, 66), (0, 0)]),
  (0, 20, []),
  (0, 20, []),
  (0, 4, []),
  (3, 11, [(0, 0), (2, 68), (0, 0), (2, 69), (0, 0), (2, 70), (2, 71), (2, 72), (2, 73), (0, 0), (2, 74), (2, 75), (2, 76), (0, 0), (2, 77), (0, 0), (2, 78), (2, 79), (0, 0), (0, 0), (0, 0), (2, 80), (2, 81), (2, 82), (0, 0), (0, 0), (2, 83), (0, 0), (2, 84), (2, 85), (0, 0), (2, 86), (0, 0), (0, 0), (0, 0), (0, 0), (0, 0), (0, 0), (0, 0), (2, 87), (2, 88), (0, 0), (2, 89), (2, 90), (2, 91), (2, 92), (2, 93), (2, 94), (2, 95), (2, 96), (2, 97), (1, 0), (0, 0), (2, 98), (2, 99), (2, 100), (2, 101), (2, 102), (1, 0), (1, 0), (2, 103), (0, 0), (2, 104), (2, 105), (1, 0)]),
  (0, 64, []),
  (2, 40, []),
  (0, 20, []),
  (0, 20, []),
  (0, 20, []),
  (0, 20, []),
  (0, 72, []),
  (0, 36, []),
  (0, 48, []),
  (0, 180, []),
  (0, 8, []),
  (0, 8, []),
  (0, 16, []),
  (0, 64, []),
  (0, 8, []),
  (0, 24, []),
  (0, 5, []),
  (0, 5, []),
  (0, 64, []),
  (0, 9, []),
  (0, 20, []),
  (0, 84, []),
  (0, 84, []),
  (0, 84, []),
  (0, 84, []),
  (0, 84, []),
  (0, 84, []),
  (0, 16, []),
  (0, 16, []),
  (0, 16, []),
  (0, 576, []),
  (0, 24, []),
  (0, 24, []),
  (0, 24, []),
  (1, 6, []),
  (0, 64, []),
  (0, 4, []),
  (0, 20, [])]
-- cell 0: WagonWays
-- cell 1: Land
-- cell 2: Land.miles
-- cell 3: Land.nearest
-- cell 4: Page
-- cell 5: Page.codes
-- cell 6: Blocks
-- cell 7: Blocks.from
-- cell 8: Blocks.to
-- cell 9: Blocks.takes
-- cell 10: Blocks.rank
-- cell 11: Blocks.chosen
-- cell 12: Blocks.stops
-- cell 13: Timetable
-- cell 14: Timetable.blockOne
-- cell 15: Timetable.blockTwo
-- cell 16: Timetable.from
-- cell 17: Timetable.to
-- cell 18: Timetable.takes
-- cell 19: Timetable.length
-- cell 20: Timetable.days
-- cell 21: Timetable.hour
-- cell 22: Timetable.leftMany
-- cell 23: Timetable.tookMany
-- cell 24: Timetable.shutMany
-- cell 25: Timetable.leftLast
-- cell 26: Timetable.leftBefore
-- cell 27: Timetable.crewsFree
-- cell 28: Traffic
-- cell 29: Traffic.closedFrom
-- cell 30: Traffic.closedTo
-- cell 31: Traffic.at
-- cell 32: Traffic.goal
-- cell 33: Traffic.inTrain
-- cell 34: Traffic.since
-- cell 35: Traffic.rides
-- cell 36: Traffic.done
-- cell 37: Row
-- cell 38: Row.numbers
-- cell 39: Row.standing
-- cell 40: Row.marks
-- cell 41: Row.wanted
-- cell 42: Row.rolled
-- cell 43: Nets
-- cell 44: Nets.loads
-- cell 45: Nets.trackCount
-- cell 46: Nets.lengths
-- cell 47: Empties
-- cell 48: Empties.over
-- cell 49: Empties.giver
-- cell 50: Empties.taker
-- cell 51: Empties.left
-- cell 52: Empties.wanted
-- cell 53: Empties.fare
-- cell 54: Empties.sent
-- cell 55: Empties.giverCost
-- cell 56: Empties.takerCost
-- cell 57: Empties.giverFrom
-- cell 58: Empties.takerFrom
-- cell 59: Legs
-- cell 60: Legs.hours
-- cell 61: Legs.tenths
-- cell 62: Legs.missing
-- cell 63: Detour
-- cell 64: Detour.best
-- cell 65: Detour.target
-- cell 66: Detour.turned
-- cell 67: M
-- cell 68: M.miles
-- cell 69: M.page
-- cell 70: M.madeAt
-- cell 71: M.madeFor
-- cell 72: M.takesOf
-- cell 73: M.ranks
-- cell 74: M.trainOf
-- cell 75: M.trainTold
-- cell 76: M.comesIn
-- cell 77: M.wagonOf
-- cell 78: M.closedFrom
-- cell 79: M.closedTo
-- cell 80: M.rowMark
-- cell 81: M.loads
-- cell 82: M.trackOf
-- cell 83: M.over
-- cell 84: M.legHours
-- cell 85: M.legTenths
-- cell 86: M.least
-- cell 87: M.wayOf
-- cell 88: M.nowFor
-- cell 89: M.dutyTrain
-- cell 90: M.dutyBegin
-- cell 91: M.behind
-- cell 92: M.aheadOf
-- cell 93: M.from
-- cell 94: M.line
-- cell 95: M.numbers
-- cell 96: M.standing
-- cell 97: M.rolled
-- cell 98: M.flow
-- cell 99: M.left
-- cell 100: M.price
-- cell 101: M.came
-- cell 102: M.misses
-- cell 103: M.into
-- cell 104: M.closedBlock
-- cell 105: M.bestFor
