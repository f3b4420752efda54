/-! the classes whose objects are made, their fields; the cells of one fair and one reference -/
def jx_T0 : u_T := fun k => match k with
  | 0 => ("FairByEar$Air", "mine", "LFairByEar$Mine;", true)
  | 1 => ("FairByEar$Air", "gas", "I", false)
  | 2 => ("FairByEar$Air", "breath", "I", false)
  | 3 => ("FairByEar$Air", "limit", "I", false)
  | _ => ("FairByEar$Air", "fire", "I", false)
def jx_ty0 : Nat → FieldType := fun k => match k with
  | 0 => (.object "FairByEar$Mine")
  | 1 => .int
  | 2 => .int
  | 3 => .int
  | _ => .int
theorem jx_nm0 : ∀ a, a < 5 → ∀ b, b < 5 → a ≠ b → (jx_T0 a).2.1 ≠ (jx_T0 b).2.1 := by decide +kernel
theorem jx_ok0 : ∀ k, k < 5 → parseFieldDescriptor (jx_T0 k).2.2.1 = some (jx_ty0 k) := by decide +kernel
def jx_T1 : u_T := fun k => match k with
  | 0 => ("FairByEar$Asking", "mine", "LFairByEar$Mine;", true)
  | 1 => ("FairByEar$Asking", "items", "LFairByEar$Items;", true)
  | 2 => ("FairByEar$Asking", "wants", "[I", true)
  | 3 => ("FairByEar$Asking", "wind", "I", false)
  | 4 => ("FairByEar$Asking", "prices", "[I", true)
  | 5 => ("FairByEar$Asking", "lates", "[I", true)
  | _ => ("FairByEar$Asking", "askers", "[I", true)
def jx_ty1 : Nat → FieldType := fun k => match k with
  | 0 => (.object "FairByEar$Mine")
  | 1 => (.object "FairByEar$Items")
  | 2 => (.array .int)
  | 3 => .int
  | 4 => (.array .int)
  | 5 => (.array .int)
  | _ => (.array .int)
theorem jx_nm1 : ∀ a, a < 7 → ∀ b, b < 7 → a ≠ b → (jx_T1 a).2.1 ≠ (jx_T1 b).2.1 := by decide +kernel
theorem jx_ok1 : ∀ k, k < 7 → parseFieldDescriptor (jx_T1 k).2.2.1 = some (jx_ty1 k) := by decide +kernel
def jx_T2 : u_T := fun k => match k with
  | 0 => ("FairByEar$Ears", "mine", "LFairByEar$Mine;", true)
  | 1 => ("FairByEar$Ears", "chances", "[I", true)
  | _ => ("FairByEar$Ears", "weights", "[I", true)
def jx_ty2 : Nat → FieldType := fun k => match k with
  | 0 => (.object "FairByEar$Mine")
  | 1 => (.array .int)
  | _ => (.array .int)
theorem jx_nm2 : ∀ a, a < 3 → ∀ b, b < 3 → a ≠ b → (jx_T2 a).2.1 ≠ (jx_T2 b).2.1 := by decide +kernel
theorem jx_ok2 : ∀ k, k < 3 → parseFieldDescriptor (jx_T2 k).2.2.1 = some (jx_ty2 k) := by decide +kernel
def jx_T3 : u_T := fun k => match k with
  | 0 => ("FairByEar$Goods", "often", "[I", true)
  | 1 => ("FairByEar$Goods", "costs", "[I", true)
  | 2 => ("FairByEar$Goods", "answers", "[I", true)
  | 3 => ("FairByEar$Goods", "sharing", "[I", true)
  | 4 => ("FairByEar$Goods", "goods", "I", false)
  | _ => ("FairByEar$Goods", "tests", "I", false)
def jx_ty3 : Nat → FieldType := fun k => match k with
  | 0 => (.array .int)
  | 1 => (.array .int)
  | 2 => (.array .int)
  | 3 => (.array .int)
  | 4 => .int
  | _ => .int
theorem jx_nm3 : ∀ a, a < 6 → ∀ b, b < 6 → a ≠ b → (jx_T3 a).2.1 ≠ (jx_T3 b).2.1 := by decide +kernel
theorem jx_ok3 : ∀ k, k < 6 → parseFieldDescriptor (jx_T3 k).2.2.1 = some (jx_ty3 k) := by decide +kernel
def jx_T4 : u_T := fun k => match k with
  | 0 => ("FairByEar$Items", "mine", "LFairByEar$Mine;", true)
  | 1 => ("FairByEar$Items", "goods", "[I", true)
  | 2 => ("FairByEar$Items", "owners", "[I", true)
  | 3 => ("FairByEar$Items", "size", "I", false)
  | 4 => ("FairByEar$Items", "sold", "I", false)
  | 5 => ("FairByEar$Items", "saleItems", "[I", true)
  | 6 => ("FairByEar$Items", "sellers", "[I", true)
  | 7 => ("FairByEar$Items", "sellerPurses", "[I", true)
  | 8 => ("FairByEar$Items", "buyerPurses", "[I", true)
  | _ => ("FairByEar$Items", "sales", "I", false)
def jx_ty4 : Nat → FieldType := fun k => match k with
  | 0 => (.object "FairByEar$Mine")
  | 1 => (.array .int)
  | 2 => (.array .int)
  | 3 => .int
  | 4 => .int
  | 5 => (.array .int)
  | 6 => (.array .int)
  | 7 => (.array .int)
  | 8 => (.array .int)
  | _ => .int
theorem jx_nm4 : ∀ a, a < 10 → ∀ b, b < 10 → a ≠ b → (jx_T4 a).2.1 ≠ (jx_T4 b).2.1 := by decide +kernel
theorem jx_ok4 : ∀ k, k < 10 → parseFieldDescriptor (jx_T4 k).2.2.1 = some (jx_ty4 k) := by decide +kernel
def jx_T5 : u_T := fun k => match k with
  | 0 => ("FairByEar$Mine", "ways", "[I", true)
  | 1 => ("FairByEar$Mine", "walls", "[I", true)
  | 2 => ("FairByEar$Mine", "places", "[I", true)
  | 3 => ("FairByEar$Mine", "purses", "[I", true)
  | 4 => ("FairByEar$Mine", "loads", "[I", true)
  | 5 => ("FairByEar$Mine", "tunnels", "I", false)
  | _ => ("FairByEar$Mine", "people", "I", false)
def jx_ty5 : Nat → FieldType := fun k => match k with
  | 0 => (.array .int)
  | 1 => (.array .int)
  | 2 => (.array .int)
  | 3 => (.array .int)
  | 4 => (.array .int)
  | 5 => .int
  | _ => .int
theorem jx_nm5 : ∀ a, a < 7 → ∀ b, b < 7 → a ≠ b → (jx_T5 a).2.1 ≠ (jx_T5 b).2.1 := by decide +kernel
theorem jx_ok5 : ∀ k, k < 7 → parseFieldDescriptor (jx_T5 k).2.2.1 = some (jx_ty5 k) := by decide +kernel
def jx_T6 : u_T := fun k => match k with
  | 0 => ("FairByEar$Noise", "mine", "LFairByEar$Mine;", true)
  | 1 => ("FairByEar$Noise", "heardAt", "[I", true)
  | 2 => ("FairByEar$Noise", "heardAs", "[I", true)
  | 3 => ("FairByEar$Noise", "size", "I", false)
  | 4 => ("FairByEar$Noise", "crowd", "[I", true)
  | 5 => ("FairByEar$Noise", "firstCrowd", "[I", true)
  | 6 => ("FairByEar$Noise", "sums", "[I", true)
  | 7 => ("FairByEar$Noise", "rests", "[I", true)
  | 8 => ("FairByEar$Noise", "crowded", "I", false)
  | 9 => ("FairByEar$Noise", "slack", "I", false)
  | _ => ("FairByEar$Noise", "found", "Z", false)
def jx_ty6 : Nat → FieldType := fun k => match k with
  | 0 => (.object "FairByEar$Mine")
  | 1 => (.array .int)
  | 2 => (.array .int)
  | 3 => .int
  | 4 => (.array .int)
  | 5 => (.array .int)
  | 6 => (.array .int)
  | 7 => (.array .int)
  | 8 => .int
  | 9 => .int
  | _ => .boolean
theorem jx_nm6 : ∀ a, a < 11 → ∀ b, b < 11 → a ≠ b → (jx_T6 a).2.1 ≠ (jx_T6 b).2.1 := by decide +kernel
theorem jx_ok6 : ∀ k, k < 11 → parseFieldDescriptor (jx_T6 k).2.2.1 = some (jx_ty6 k) := by decide +kernel
def jx_T7 : u_T := fun k => match k with
  | 0 => ("FairByEar$Row", "numbers", "[J", true)
  | _ => ("FairByEar$Row", "size", "I", false)
def jx_ty7 : Nat → FieldType := fun k => match k with
  | 0 => (.array .long)
  | _ => .int
theorem jx_nm7 : ∀ a, a < 2 → ∀ b, b < 2 → a ≠ b → (jx_T7 a).2.1 ≠ (jx_T7 b).2.1 := by decide +kernel
theorem jx_ok7 : ∀ k, k < 2 → parseFieldDescriptor (jx_T7 k).2.2.1 = some (jx_ty7 k) := by decide +kernel
def jx_T8 : u_T := fun k => match k with
  | 0 => ("FairByEar$Rule", "mine", "LFairByEar$Mine;", true)
  | 1 => ("FairByEar$Rule", "text", "[I", true)
  | 2 => ("FairByEar$Rule", "length", "I", false)
  | 3 => ("FairByEar$Rule", "steps", "[I", true)
  | 4 => ("FairByEar$Rule", "size", "I", false)
  | 5 => ("FairByEar$Rule", "draft", "[I", true)
  | 6 => ("FairByEar$Rule", "drafted", "I", false)
  | 7 => ("FairByEar$Rule", "waiting", "[I", true)
  | 8 => ("FairByEar$Rule", "waits", "I", false)
  | 9 => ("FairByEar$Rule", "compared", "[Z", true)
  | 10 => ("FairByEar$Rule", "open", "I", false)
  | 11 => ("FairByEar$Rule", "digits", "I", false)
  | 12 => ("FairByEar$Rule", "wantsThing", "Z", false)
  | 13 => ("FairByEar$Rule", "values", "[I", true)
  | _ => ("FairByEar$Rule", "byPerson", "[I", true)
def jx_ty8 : Nat → FieldType := fun k => match k with
  | 0 => (.object "FairByEar$Mine")
  | 1 => (.array .int)
  | 2 => .int
  | 3 => (.array .int)
  | 4 => .int
  | 5 => (.array .int)
  | 6 => .int
  | 7 => (.array .int)
  | 8 => .int
  | 9 => (.array .boolean)
  | 10 => .int
  | 11 => .int
  | 12 => .boolean
  | 13 => (.array .int)
  | _ => (.array .int)
theorem jx_nm8 : ∀ a, a < 15 → ∀ b, b < 15 → a ≠ b → (jx_T8 a).2.1 ≠ (jx_T8 b).2.1 := by decide +kernel
theorem jx_ok8 : ∀ k, k < 15 → parseFieldDescriptor (jx_T8 k).2.2.1 = some (jx_ty8 k) := by decide +kernel
def jx_T9 : u_T := fun k => match k with
  | 0 => ("FairByEar$Tree", "goods", "LFairByEar$Goods;", true)
  | 1 => ("FairByEar$Tree", "leasts", "[I", true)
  | 2 => ("FairByEar$Tree", "firsts", "[I", true)
  | _ => ("FairByEar$Tree", "tolds", "[I", true)
def jx_ty9 : Nat → FieldType := fun k => match k with
  | 0 => (.object "FairByEar$Goods")
  | 1 => (.array .int)
  | 2 => (.array .int)
  | _ => (.array .int)
theorem jx_nm9 : ∀ a, a < 4 → ∀ b, b < 4 → a ≠ b → (jx_T9 a).2.1 ≠ (jx_T9 b).2.1 := by decide +kernel
theorem jx_ok9 : ∀ k, k < 4 → parseFieldDescriptor (jx_T9 k).2.2.1 = some (jx_ty9 k) := by decide +kernel
def jx_T10 : u_T := fun k => match k with
  | 0 => ("FairByEar$Watch", "mine", "LFairByEar$Mine;", true)
  | 1 => ("FairByEar$Watch", "countPlaces", "[I", true)
  | 2 => ("FairByEar$Watch", "countMinutes", "[I", true)
  | 3 => ("FairByEar$Watch", "countMany", "[I", true)
  | 4 => ("FairByEar$Watch", "counts", "I", false)
  | 5 => ("FairByEar$Watch", "stayPeople", "[I", true)
  | 6 => ("FairByEar$Watch", "stayPlaces", "[I", true)
  | 7 => ("FairByEar$Watch", "stayFrom", "[I", true)
  | 8 => ("FairByEar$Watch", "stayTo", "[I", true)
  | 9 => ("FairByEar$Watch", "stays", "I", false)
  | 10 => ("FairByEar$Watch", "clinkPlaces", "[I", true)
  | 11 => ("FairByEar$Watch", "clinkMinutes", "[I", true)
  | 12 => ("FairByEar$Watch", "coins", "[I", true)
  | 13 => ("FairByEar$Watch", "clinks", "I", false)
  | 14 => ("FairByEar$Watch", "blamed", "[I", true)
  | 15 => ("FairByEar$Watch", "ways", "[I", true)
  | _ => ("FairByEar$Watch", "whose", "[I", true)
def jx_ty10 : Nat → FieldType := fun k => match k with
  | 0 => (.object "FairByEar$Mine")
  | 1 => (.array .int)
  | 2 => (.array .int)
  | 3 => (.array .int)
  | 4 => .int
  | 5 => (.array .int)
  | 6 => (.array .int)
  | 7 => (.array .int)
  | 8 => (.array .int)
  | 9 => .int
  | 10 => (.array .int)
  | 11 => (.array .int)
  | 12 => (.array .int)
  | 13 => .int
  | 14 => (.array .int)
  | 15 => (.array .int)
  | _ => (.array .int)
theorem jx_nm10 : ∀ a, a < 17 → ∀ b, b < 17 → a ≠ b → (jx_T10 a).2.1 ≠ (jx_T10 b).2.1 := by decide +kernel
theorem jx_ok10 : ∀ k, k < 17 → parseFieldDescriptor (jx_T10 k).2.2.1 = some (jx_ty10 k) := by decide +kernel
def jx_T11 : u_T := fun k => match k with
  | 0 => ("FairByEar", "told", "LFairByEar$Row;", true)
  | 1 => ("FairByEar", "mine", "LFairByEar$Mine;", true)
  | 2 => ("FairByEar", "shelf", "LFairByEar$Goods;", true)
  | 3 => ("FairByEar", "trees", "LFairByEar$Tree;", true)
  | 4 => ("FairByEar", "way", "LFairByEar$Rule;", true)
  | 5 => ("FairByEar", "items", "LFairByEar$Items;", true)
  | 6 => ("FairByEar", "asking", "LFairByEar$Asking;", true)
  | 7 => ("FairByEar", "watch", "LFairByEar$Watch;", true)
  | 8 => ("FairByEar", "noise", "LFairByEar$Noise;", true)
  | 9 => ("FairByEar", "air", "LFairByEar$Air;", true)
  | _ => ("FairByEar", "ears", "LFairByEar$Ears;", true)
def jx_ty11 : Nat → FieldType := fun k => match k with
  | 0 => (.object "FairByEar$Row")
  | 1 => (.object "FairByEar$Mine")
  | 2 => (.object "FairByEar$Goods")
  | 3 => (.object "FairByEar$Tree")
  | 4 => (.object "FairByEar$Rule")
  | 5 => (.object "FairByEar$Items")
  | 6 => (.object "FairByEar$Asking")
  | 7 => (.object "FairByEar$Watch")
  | 8 => (.object "FairByEar$Noise")
  | 9 => (.object "FairByEar$Air")
  | _ => (.object "FairByEar$Ears")
theorem jx_nm11 : ∀ a, a < 11 → ∀ b, b < 11 → a ≠ b → (jx_T11 a).2.1 ≠ (jx_T11 b).2.1 := by decide +kernel
theorem jx_ok11 : ∀ k, k < 11 → parseFieldDescriptor (jx_T11 k).2.2.1 = some (jx_ty11 k) := by decide +kernel
def jx_T12 : u_T := fun k => match k with
  | 0 => ("FairByEarModel", "thrown", "I", false)
  | 1 => ("FairByEarModel", "rows", "I", false)
  | 2 => ("FairByEarModel", "row", "[J", true)
  | 3 => ("FairByEarModel", "tunnels", "I", false)
  | 4 => ("FairByEarModel", "away", "[I", true)
  | 5 => ("FairByEarModel", "walls", "[I", true)
  | 6 => ("FairByEarModel", "people", "I", false)
  | 7 => ("FairByEarModel", "at", "[I", true)
  | 8 => ("FairByEarModel", "purse", "[I", true)
  | 9 => ("FairByEarModel", "load", "[I", true)
  | 10 => ("FairByEarModel", "goods", "I", false)
  | 11 => ("FairByEarModel", "often", "[I", true)
  | 12 => ("FairByEarModel", "tests", "I", false)
  | 13 => ("FairByEarModel", "cost", "[I", true)
  | 14 => ("FairByEarModel", "answers", "[I", true)
  | 15 => ("FairByEarModel", "least", "[I", true)
  | 16 => ("FairByEarModel", "firstTest", "[I", true)
  | 17 => ("FairByEarModel", "worst", "[I", true)
  | 18 => ("FairByEarModel", "told", "[I", true)
  | 19 => ("FairByEarModel", "code", "[I", true)
  | 20 => ("FairByEarModel", "codes", "[I", true)
  | 21 => ("FairByEarModel", "stack", "[I", true)
  | 22 => ("FairByEarModel", "tape", "[I", true)
  | 23 => ("FairByEarModel", "taped", "I", false)
  | 24 => ("FairByEarModel", "place", "I", false)
  | 25 => ("FairByEarModel", "to", "I", false)
  | 26 => ("FairByEarModel", "nest", "I", false)
  | 27 => ("FairByEarModel", "wants", "[I", true)
  | 28 => ("FairByEarModel", "items", "I", false)
  | 29 => ("FairByEarModel", "goodOf", "[I", true)
  | 30 => ("FairByEarModel", "owner", "[I", true)
  | 31 => ("FairByEarModel", "isSold", "[Z", true)
  | 32 => ("FairByEarModel", "prices", "[I", true)
  | 33 => ("FairByEarModel", "asked", "[I", true)
  | 34 => ("FairByEarModel", "windNow", "I", false)
  | 35 => ("FairByEarModel", "states", "[I", true)
  | 36 => ("FairByEarModel", "sales", "I", false)
  | 37 => ("FairByEarModel", "sale", "[I", true)
  | 38 => ("FairByEarModel", "counts", "I", false)
  | 39 => ("FairByEarModel", "countPlace", "[I", true)
  | 40 => ("FairByEarModel", "countMinute", "[I", true)
  | 41 => ("FairByEarModel", "countMany", "[I", true)
  | 42 => ("FairByEarModel", "stays", "I", false)
  | 43 => ("FairByEarModel", "stayWho", "[I", true)
  | 44 => ("FairByEarModel", "stayPlace", "[I", true)
  | 45 => ("FairByEarModel", "stayFrom", "[I", true)
  | 46 => ("FairByEarModel", "stayTo", "[I", true)
  | 47 => ("FairByEarModel", "inOrder", "[I", true)
  | 48 => ("FairByEarModel", "theftFrom", "[I", true)
  | 49 => ("FairByEarModel", "theftTo", "[I", true)
  | 50 => ("FairByEarModel", "thefts", "I", false)
  | 51 => ("FairByEarModel", "taken", "I", false)
  | 52 => ("FairByEarModel", "clinks", "I", false)
  | 53 => ("FairByEarModel", "clinkPlace", "[I", true)
  | 54 => ("FairByEarModel", "clinkMinute", "[I", true)
  | 55 => ("FairByEarModel", "clinkCoin", "[I", true)
  | 56 => ("FairByEarModel", "hand", "[I", true)
  | 57 => ("FairByEarModel", "canBe", "[I", true)
  | 58 => ("FairByEarModel", "spent", "[I", true)
  | 59 => ("FairByEarModel", "heards", "I", false)
  | 60 => ("FairByEarModel", "heardPlace", "[I", true)
  | 61 => ("FairByEarModel", "heardLoud", "[I", true)
  | 62 => ("FairByEarModel", "crowd", "[I", true)
  | 63 => ("FairByEarModel", "gasNow", "I", false)
  | 64 => ("FairByEarModel", "breath", "I", false)
  | 65 => ("FairByEarModel", "limit", "I", false)
  | 66 => ("FairByEarModel", "fire", "I", false)
  | _ => ("FairByEarModel", "ears", "[I", true)
def jx_ty12 : Nat → FieldType := fun k => match k with
  | 0 => .int
  | 1 => .int
  | 2 => (.array .long)
  | 3 => .int
  | 4 => (.array .int)
  | 5 => (.array .int)
  | 6 => .int
  | 7 => (.array .int)
  | 8 => (.array .int)
  | 9 => (.array .int)
  | 10 => .int
  | 11 => (.array .int)
  | 12 => .int
  | 13 => (.array .int)
  | 14 => (.array .int)
  | 15 => (.array .int)
  | 16 => (.array .int)
  | 17 => (.array .int)
  | 18 => (.array .int)
  | 19 => (.array .int)
  | 20 => (.array .int)
  | 21 => (.array .int)
  | 22 => (.array .int)
  | 23 => .int
  | 24 => .int
  | 25 => .int
  | 26 => .int
  | 27 => (.array .int)
  | 28 => .int
  | 29 => (.array .int)
  | 30 => (.array .int)
  | 31 => (.array .boolean)
  | 32 => (.array .int)
  | 33 => (.array .int)
  | 34 => .int
  | 35 => (.array .int)
  | 36 => .int
  | 37 => (.array .int)
  | 38 => .int
  | 39 => (.array .int)
  | 40 => (.array .int)
  | 41 => (.array .int)
  | 42 => .int
  | 43 => (.array .int)
  | 44 => (.array .int)
  | 45 => (.array .int)
  | 46 => (.array .int)
  | 47 => (.array .int)
  | 48 => (.array .int)
  | 49 => (.array .int)
  | 50 => .int
  | 51 => .int
  | 52 => .int
  | 53 => (.array .int)
  | 54 => (.array .int)
  | 55 => (.array .int)
  | 56 => (.array .int)
  | 57 => (.array .int)
  | 58 => (.array .int)
  | 59 => .int
  | 60 => (.array .int)
  | 61 => (.array .int)
  | 62 => (.array .int)
  | 63 => .int
  | 64 => .int
  | 65 => .int
  | 66 => .int
  | _ => (.array .int)
theorem jx_nm12 : ∀ a, a < 68 → ∀ b, b < 68 → a ≠ b → (jx_T12 a).2.1 ≠ (jx_T12 b).2.1 := by decide +kernel
theorem jx_ok12 : ∀ k, k < 68 → parseFieldDescriptor (jx_T12 k).2.2.1 = some (jx_ty12 k) := by decide +kernel
abbrev jx_cl : List vw_C := [("FairByEar$Air", jx_T0, 5), ("FairByEar$Asking", jx_T1, 7), ("FairByEar$Ears", jx_T2, 3), ("FairByEar$Goods", jx_T3, 6), ("FairByEar$Items", jx_T4, 10), ("FairByEar$Mine", jx_T5, 7), ("FairByEar$Noise", jx_T6, 11), ("FairByEar$Row", jx_T7, 2), ("FairByEar$Rule", jx_T8, 15), ("FairByEar$Tree", jx_T9, 4), ("FairByEar$Watch", jx_T10, 17), ("FairByEar", jx_T11, 11), ("FairByEarModel", jx_T12, 68)]
abbrev jx_Sh : Type := (Nat × List (Option Nat)) ⊕ (Nat × Nat)
def jx_str : List (List Int32) := [[108, 117, 110, 102, 119, 107], [40], [41], [33, 45], [124], [38], [60, 62, 61], [43, 45], [42]]
def jx_stx : List (Nat × String) := [(213, "lunfwk"), (219, "("), (227, ")"), (229, "!-"), (237, "|"), (239, "&"), (241, "<>="), (243, "+-"), (245, "*")]
