/-! The law's loop out of one hypothesis an operation -/
/-- person: both answer alike, and the invariant holds again -/
def op_person (Inv : mG → Prop) (d : Nat) : Prop := ∀ (g : mG), Inv g → ∀ (a1 : Int32), ∃ (r : Int32) (g1 g2 : mG), ev none d mm_X11_person 0 [(.ref 0), (.int a1)] [] g = some (some (.int r), g1) ∧ ev none d mm_X12_person 0 [(.ref 55), (.int a1)] [] g1 = some (some (.int r), g2) ∧ Inv g2
/-- promise: both answer alike, and the invariant holds again -/
def op_promise (Inv : mG → Prop) (d : Nat) : Prop := ∀ (g : mG), Inv g → ∀ (a1 : Int32) (a2 : Int32), ∃ (r : Int32) (g1 g2 : mG), ev none d mm_X11_promise 0 [(.ref 0), (.int a1), (.int a2), .null, .null, .null, .null, .null] [] g = some (some (.int r), g1) ∧ ev none d mm_X12_promise 0 [(.ref 55), (.int a1), (.int a2)] [] g1 = some (some (.int r), g2) ∧ Inv g2
/-- promises: both answer alike, and the invariant holds again -/
def op_promises (Inv : mG → Prop) (d : Nat) : Prop := ∀ (g : mG), Inv g → ∀ (a1 : Int32) (a2 : Int32) (a3 : Int32), ∃ (r : Int32) (g1 g2 : mG), ev none d mm_X11_promises 0 [(.ref 0), (.int a1), (.int a2), (.int a3), .null] [] g = some (some (.int r), g1) ∧ ev none d mm_X12_promises 0 [(.ref 55), (.int a1), (.int a2), (.int a3), .null, .null, .null, .null] [] g1 = some (some (.int r), g2) ∧ Inv g2
/-- mend: both answer alike, and the invariant holds again -/
def op_mend (Inv : mG → Prop) (d : Nat) : Prop := ∀ (g : mG), Inv g → ∀ (a1 : Int32) (a2 : Int32) (a3 : Int32), ∃ (r : Int32) (g1 g2 : mG), ev none d mm_X11_mend 0 [(.ref 0), (.int a1), (.int a2), (.int a3), .null] [] g = some (some (.int r), g1) ∧ ev none d mm_X12_mend 0 [(.ref 55), (.int a1), (.int a2), (.int a3)] [] g1 = some (some (.int r), g2) ∧ Inv g2
/-- of: both answer alike, and the invariant holds again -/
def op_of (Inv : mG → Prop) (d : Nat) : Prop := ∀ (g : mG), Inv g → ∀ (a1 : Int32) (a2 : Int32), ∃ (r : Int32) (g1 g2 : mG), ev none d mm_X11_of 0 [(.ref 0), (.int a1), (.int a2)] [] g = some (some (.int r), g1) ∧ ev none d mm_X12_of 0 [(.ref 55), (.int a1), (.int a2)] [] g1 = some (some (.int r), g2) ∧ Inv g2
/-- feed: both answer alike, and the invariant holds again -/
def op_feed (Inv : mG → Prop) (d : Nat) : Prop := ∀ (g : mG), Inv g → ∀ (a1 : Int32), ∃ (r : Int32) (g1 g2 : mG), ev none d mm_X11_feed 0 [(.ref 0), (.int a1)] [] g = some (some (.int r), g1) ∧ ev none d mm_X12_feed 0 [(.ref 55), (.int a1)] [] g1 = some (some (.int r), g2) ∧ Inv g2
/-- law: both answer alike, and the invariant holds again -/
def op_law (Inv : mG → Prop) (d : Nat) : Prop := ∀ (g : mG), Inv g → ∀ (_ : True), ∃ (r : Int32) (g1 g2 : mG), ev none d mm_X11_law 0 [(.ref 0), .null] [] g = some (some (.int r), g1) ∧ ev none d mm_X12_law 0 [(.ref 55), .null] [] g1 = some (some (.int r), g2) ∧ Inv g2
/-- hard: both answer alike, and the invariant holds again -/
def op_hard (Inv : mG → Prop) (d : Nat) : Prop := ∀ (g : mG), Inv g → ∀ (a1 : Int32), ∃ (r : Int32) (g1 g2 : mG), ev none d mm_X11_hard 0 [(.ref 0), (.int a1), .null] [] g = some (some (.int r), g1) ∧ ev none d mm_X12_hard 0 [(.ref 55), (.int a1)] [] g1 = some (some (.int r), g2) ∧ Inv g2
/-- route: both answer alike, and the invariant holds again -/
def op_route (Inv : mG → Prop) (d : Nat) : Prop := ∀ (g : mG), Inv g → ∀ (a1 : Int32) (a2 : Int32) (a3 : Int32) (a4 : Int32), ∃ (r : Int32) (g1 g2 : mG), ev none d mm_X11_route 0 [(.ref 0), (.int a1), (.int a2), (.int a3), (.int a4), .null] [] g = some (some (.int r), g1) ∧ ev none d mm_X12_route 0 [(.ref 55), (.int a1), (.int a2), (.int a3), (.int a4), .null, .null, .null] [] g1 = some (some (.int r), g2) ∧ Inv g2
/-- held: both answer alike, and the invariant holds again -/
def op_held (Inv : mG → Prop) (d : Nat) : Prop := ∀ (g : mG), Inv g → ∀ (a1 : Int32) (a2 : Int32), ∃ (r : Int32) (g1 g2 : mG), ev none d mm_X11_held 0 [(.ref 0), (.int a1), (.int a2)] [] g = some (some (.int r), g1) ∧ ev none d mm_X12_held 0 [(.ref 55), (.int a1), (.int a2)] [] g1 = some (some (.int r), g2) ∧ Inv g2
/-- best: both answer alike, and the invariant holds again -/
def op_best (Inv : mG → Prop) (d : Nat) : Prop := ∀ (g : mG), Inv g → ∀ (a1 : Int32) (a2 : Int32) (a3 : Int32), ∃ (r : Int32) (g1 g2 : mG), ev none d mm_X11_best 0 [(.ref 0), (.int a1), (.int a2), (.int a3)] [] g = some (some (.int r), g1) ∧ ev none d mm_X12_best 0 [(.ref 55), (.int a1), (.int a2), (.int a3)] [] g1 = some (some (.int r), g2) ∧ Inv g2
/-- soonest: both answer alike, and the invariant holds again -/
def op_soonest (Inv : mG → Prop) (d : Nat) : Prop := ∀ (g : mG), Inv g → ∀ (a1 : Int32) (a2 : Int32), ∃ (r : Int32) (g1 g2 : mG), ev none d mm_X11_soonest 0 [(.ref 0), (.int a1), (.int a2)] [] g = some (some (.int r), g1) ∧ ev none d mm_X12_soonest 0 [(.ref 55), (.int a1), (.int a2), .null, .null] [] g1 = some (some (.int r), g2) ∧ Inv g2
/-- free: both answer alike, and the invariant holds again -/
def op_free (Inv : mG → Prop) (d : Nat) : Prop := ∀ (g : mG), Inv g → ∀ (a1 : Int32), ∃ (r : Int32) (g1 g2 : mG), ev none d mm_X11_free 0 [(.ref 0), (.int a1)] [] g = some (some (.int r), g1) ∧ ev none d mm_X12_free 0 [(.ref 55), (.int a1), .null, .null] [] g1 = some (some (.int r), g2) ∧ Inv g2
/-- words: both answer alike, and the invariant holds again -/
def op_words (Inv : mG → Prop) (d : Nat) : Prop := ∀ (g : mG), Inv g → ∀ (a1 : Int32) (a2 : Int32), ∃ (r : Int32) (g1 g2 : mG), ev none d mm_X11_words 0 [(.ref 0), (.int a1), (.int a2), .null] [] g = some (some (.int r), g1) ∧ ev none d mm_X12_words 0 [(.ref 55), (.int a1), (.int a2), .null, .null, .null] [] g1 = some (some (.int r), g2) ∧ Inv g2
/-- all: both answer alike, and the invariant holds again -/
def op_all (Inv : mG → Prop) (d : Nat) : Prop := ∀ (g : mG), Inv g → ∀ (a1 : Int32), ∃ (r : Int32) (g1 g2 : mG), ev none d mm_X11_all 0 [(.ref 0), (.int a1), .null] [] g = some (some (.int r), g1) ∧ ev none d mm_X12_all 0 [(.ref 55), (.int a1), .null, .null] [] g1 = some (some (.int r), g2) ∧ Inv g2
/-- ring: both answer alike, and the invariant holds again -/
def op_ring (Inv : mG → Prop) (d : Nat) : Prop := ∀ (g : mG), Inv g → ∀ (_ : True), ∃ (r : Int32) (g1 g2 : mG), ev none d mm_X11_ring 0 [(.ref 0)] [] g = some (some (.int r), g1) ∧ ev none d mm_X12_ring 0 [(.ref 55), .null, .null, .null, .null] [] g1 = some (some (.int r), g2) ∧ Inv g2
/-- breaks: both answer alike, and the invariant holds again -/
def op_breaks (Inv : mG → Prop) (d : Nat) : Prop := ∀ (g : mG), Inv g → ∀ (a1 : Int32) (a2 : Int32), ∃ (r : Int32) (g1 g2 : mG), ev none d mm_X11_breaks 0 [(.ref 0), (.int a1), (.int a2), .null] [] g = some (some (.int r), g1) ∧ ev none d mm_X12_breaks 0 [(.ref 55), (.int a1), (.int a2), .null, .null, .null] [] g1 = some (some (.int r), g2) ∧ Inv g2
/-- judge: both answer alike, and the invariant holds again -/
def op_judge (Inv : mG → Prop) (d : Nat) : Prop := ∀ (g : mG), Inv g → ∀ (a1 : Int32) (a2 : Int32), ∃ (r : Int32) (g1 g2 : mG), ev none d mm_X11_judge 0 [(.ref 0), (.int a1), (.int a2), .null, .null, .null] [] g = some (some (.int r), g1) ∧ ev none d mm_X12_judge 0 [(.ref 55), (.int a1), (.int a2), .null, .null, .null, .null] [] g1 = some (some (.int r), g2) ∧ Inv g2
/-- can: both answer alike, and the invariant holds again -/
def op_can (Inv : mG → Prop) (d : Nat) : Prop := ∀ (g : mG), Inv g → ∀ (a1 : Int32) (a2 : Int32), ∃ (r : Int32) (g1 g2 : mG), ev none d mm_X11_can 0 [(.ref 0), (.int a1), (.int a2), .null] [] g = some (some (.int r), g1) ∧ ev none d mm_X12_can 0 [(.ref 55), (.int a1), (.int a2)] [] g1 = some (some (.int r), g2) ∧ Inv g2
/-- who: both answer alike, and the invariant holds again -/
def op_who (Inv : mG → Prop) (d : Nat) : Prop := ∀ (g : mG), Inv g → ∀ (a1 : Int32), ∃ (r : Int32) (g1 g2 : mG), ev none d mm_X11_who 0 [(.ref 0), (.int a1), .null, .null, .null] [] g = some (some (.int r), g1) ∧ ev none d mm_X12_who 0 [(.ref 55), (.int a1), .null, .null] [] g1 = some (some (.int r), g2) ∧ Inv g2
/-- feeds: both answer alike, and the invariant holds again -/
def op_feeds (Inv : mG → Prop) (d : Nat) : Prop := ∀ (g : mG), Inv g → ∀ (a1 : Int32) (a2 : Int32), ∃ (r : Int32) (g1 g2 : mG), ev none d mm_X11_feeds 0 [(.ref 0), (.int a1), (.int a2)] [] g = some (some (.int r), g1) ∧ ev none d mm_X12_feeds 0 [(.ref 55), (.int a1), (.int a2), .null, .null] [] g1 = some (some (.int r), g2) ∧ Inv g2
/-- odds: both answer alike, and the invariant holds again -/
def op_odds (Inv : mG → Prop) (d : Nat) : Prop := ∀ (g : mG), Inv g → ∀ (a1 : Int32) (a2 : Int32), ∃ (r : Int64) (g1 g2 : mG), ev none d mm_X11_odds 0 [(.ref 0), (.int a1), (.int a2)] [] g = some (some (.long r), g1) ∧ ev none d mm_X12_odds 0 [(.ref 55), (.int a1), (.int a2)] [] g1 = some (some (.long r), g2) ∧ Inv g2
/-- rued: both answer alike, and the invariant holds again -/
def op_rued (Inv : mG → Prop) (d : Nat) : Prop := ∀ (g : mG), Inv g → ∀ (a1 : Int32) (a2 : Int32), ∃ (r : Int32) (g1 g2 : mG), ev none d mm_X11_rued 0 [(.ref 0), (.int a1), (.int a2)] [] g = some (some (.int r), g1) ∧ ev none d mm_X12_rued 0 [(.ref 55), (.int a1), (.int a2), .null, .null, .null, .null] [] g1 = some (some (.int r), g2) ∧ Inv g2
/-- byTurns: both answer alike, and the invariant holds again -/
def op_byTurns (Inv : mG → Prop) (d : Nat) : Prop := ∀ (g : mG), Inv g → ∀ (a1 : Int32) (a2 : Int32) (a3 : Int32) (a4 : Int32), ∃ (r : Int32) (g1 g2 : mG), ev none d mm_X11_byTurns 0 [(.ref 0), (.int a1), (.int a2), (.int a3), (.int a4), .null, .null] [] g = some (some (.int r), g1) ∧ ev none d mm_X12_byTurns 0 [(.ref 55), (.int a1), (.int a2), (.int a3), (.int a4), .null, .null, .null] [] g1 = some (some (.int r), g2) ∧ Inv g2
/-- drawn: both answer alike, and the invariant holds again -/
def op_drawn (Inv : mG → Prop) (d : Nat) : Prop := ∀ (g : mG), Inv g → ∀ (a1 : Int32) (a2 : Int32) (a3 : Int32) (a4 : Int32), ∃ (r : Int32) (g1 g2 : mG), ev none d mm_X11_drawn 0 [(.ref 0), (.int a1), (.int a2), (.int a3), (.int a4), .null, .null] [] g = some (some (.int r), g1) ∧ ev none d mm_X12_drawn 0 [(.ref 55), (.int a1), (.int a2), (.int a3), (.int a4), .null, .null, .null, .null, .null, .null] [] g1 = some (some (.int r), g2) ∧ Inv g2
/-- step: both answer alike, and the invariant holds again -/
def op_step (Inv : mG → Prop) (d : Nat) : Prop := ∀ (g : mG), Inv g → ∀ (a1 : Int32) (a2 : Int32), ∃ (r : Int32) (g1 g2 : mG), ev none d mm_X11_step 0 [(.ref 0), (.int a1), (.int a2)] [] g = some (some (.int r), g1) ∧ ev none d mm_X12_step 0 [(.ref 55), (.int a1), (.int a2)] [] g1 = some (some (.int r), g2) ∧ Inv g2
/-- pull: both answer alike, and the invariant holds again -/
def op_pull (Inv : mG → Prop) (d : Nat) : Prop := ∀ (g : mG), Inv g → ∀ (a1 : Int32), ∃ (r : Int32) (g1 g2 : mG), ev none d mm_X11_pull 0 [(.ref 0), (.int a1), .null] [] g = some (some (.int r), g1) ∧ ev none d mm_X12_pull 0 [(.ref 55), (.int a1), .null] [] g1 = some (some (.int r), g2) ∧ Inv g2
/-- letOff: both answer alike, and the invariant holds again -/
def op_letOff (Inv : mG → Prop) (d : Nat) : Prop := ∀ (g : mG), Inv g → ∀ (a1 : Int32), ∃ (r : Int32) (g1 g2 : mG), ev none d mm_X11_letOff 0 [(.ref 0), (.int a1)] [] g = some (some (.int r), g1) ∧ ev none d mm_X12_letOff 0 [(.ref 55), (.int a1)] [] g1 = some (some (.int r), g2) ∧ Inv g2
/-- forget: both answer alike, and the invariant holds again -/
def op_forget (Inv : mG → Prop) (d : Nat) : Prop := ∀ (g : mG), Inv g → ∀ (a1 : Int32), ∃ (r : Int32) (g1 g2 : mG), ev none d mm_X11_forget 0 [(.ref 0), (.int a1)] [] g = some (some (.int r), g1) ∧ ev none d mm_X12_forget 0 [(.ref 55), (.int a1)] [] g1 = some (some (.int r), g2) ∧ Inv g2
/-- day: both answer alike, and the invariant holds again -/
def op_day (Inv : mG → Prop) (d : Nat) : Prop := ∀ (g : mG), Inv g → ∀ (_ : True), ∃ (r : Int32) (g1 g2 : mG), ev none d mm_X11_day 0 [(.ref 0)] [] g = some (some (.int r), g1) ∧ ev none d mm_X12_day 0 [(.ref 55)] [] g1 = some (some (.int r), g2) ∧ Inv g2
/-- led: both answer alike, and the invariant holds again -/
def op_led (Inv : mG → Prop) (d : Nat) : Prop := ∀ (g : mG), Inv g → ∀ (a1 : Int32), ∃ (r : Int32) (g1 g2 : mG), ev none d mm_X11_led 0 [(.ref 0), (.int a1)] [] g = some (some (.int r), g1) ∧ ev none d mm_X12_led 0 [(.ref 55), (.int a1)] [] g1 = some (some (.int r), g2) ∧ Inv g2
/-- image: both answer alike, and the invariant holds again -/
def op_image (Inv : mG → Prop) (d : Nat) : Prop := ∀ (g : mG), Inv g → ∀ (_ : True), ∃ (r : Int32) (g1 g2 : mG), ev none d mm_X11_image 0 [(.ref 0)] [] g = some (some (.int r), g1) ∧ ev none d mm_X12_image 0 [(.ref 55), .null] [] g1 = some (some (.int r), g2) ∧ Inv g2
/-- back: both answer alike, and the invariant holds again -/
def op_back (Inv : mG → Prop) (d : Nat) : Prop := ∀ (g : mG), Inv g → ∀ (_ : True), ∃ (r : Int32) (g1 g2 : mG), ev none d mm_X11_back 0 [(.ref 0)] [] g = some (some (.int r), g1) ∧ ev none d mm_X12_back 0 [(.ref 55), .null] [] g1 = some (some (.int r), g2) ∧ Inv g2
/-- undo: both answer alike, and the invariant holds again -/
def op_undo (Inv : mG → Prop) (d : Nat) : Prop := ∀ (g : mG), Inv g → ∀ (_ : True), ∃ (r : Int32) (g1 g2 : mG), ev none d mm_X11_undo 0 [(.ref 0)] [] g = some (some (.int r), g1) ∧ ev none d mm_X12_undo 0 [(.ref 55)] [] g1 = some (some (.int r), g2) ∧ Inv g2
/-- redo: both answer alike, and the invariant holds again -/
def op_redo (Inv : mG → Prop) (d : Nat) : Prop := ∀ (g : mG), Inv g → ∀ (_ : True), ∃ (r : Int32) (g1 g2 : mG), ev none d mm_X11_redo 0 [(.ref 0)] [] g = some (some (.int r), g1) ∧ ev none d mm_X12_redo 0 [(.ref 55)] [] g1 = some (some (.int r), g2) ∧ Inv g2
/-- body: both answer alike, and the invariant holds again -/
def op_body (Inv : mG → Prop) (d : Nat) : Prop := ∀ (g : mG), Inv g → ∀ (a1 : Int32), ∃ (r : Int32) (g1 g2 : mG), ev none d mm_X11_body 0 [(.ref 0), (.int a1)] [] g = some (some (.int r), g1) ∧ ev none d mm_X12_body 0 [(.ref 55), (.int a1)] [] g1 = some (some (.int r), g2) ∧ Inv g2
/-- act: both answer alike, and the invariant holds again -/
def op_act (Inv : mG → Prop) (d : Nat) : Prop := ∀ (g : mG), Inv g → ∀ (a1 : Int32) (a2 : Int32) (a3 : Int32), ∃ (r : Int32) (g1 g2 : mG), ev none d mm_X11_act 0 [(.ref 0), (.int a1), (.int a2), (.int a3)] [] g = some (some (.int r), g1) ∧ ev none d mm_X12_act 0 [(.ref 55), (.int a1), (.int a2), (.int a3)] [] g1 = some (some (.int r), g2) ∧ Inv g2
/-- trace: both answer alike, and the invariant holds again -/
def op_trace (Inv : mG → Prop) (d : Nat) : Prop := ∀ (g : mG), Inv g → ∀ (a1 : Int32), ∃ (r : Int32) (g1 g2 : mG), ev none d mm_X11_trace 0 [(.ref 0), (.int a1)] [] g = some (some (.int r), g1) ∧ ev none d mm_X12_trace 0 [(.ref 55), (.int a1)] [] g1 = some (some (.int r), g2) ∧ Inv g2
/-- keep: both answer alike, and the invariant holds again -/
def op_keep (Inv : mG → Prop) (d : Nat) : Prop := ∀ (g : mG), Inv g → ∀ (a1 : Int32) (a2 : Int32), ∃ (r : Int32) (g1 g2 : mG), ev none d mm_X11_keep 0 [(.ref 0), (.int a1), (.int a2)] [] g = some (some (.int r), g1) ∧ ev none d mm_X12_keep 0 [(.ref 55), (.int a1), (.int a2)] [] g1 = some (some (.int r), g2) ∧ Inv g2
/-- row: both answer alike, and the invariant holds again -/
def op_row (Inv : mG → Prop) (d : Nat) : Prop := ∀ (g : mG), Inv g → ∀ (a1 : Int32) (a2 : Int32) (a3 : Int32), ∃ (r : Int32) (g1 g2 : mG), ev none d mm_X11_row 0 [(.ref 0), (.int a1), (.int a2), (.int a3)] [] g = some (some (.int r), g1) ∧ ev none d mm_X12_row 0 [(.ref 55), (.int a1), (.int a2), (.int a3), .null] [] g1 = some (some (.int r), g2) ∧ Inv g2
/-- put: both answer alike, and the invariant holds again -/
def op_put (Inv : mG → Prop) (d : Nat) : Prop := ∀ (g : mG), Inv g → ∀ (a1 : Int32) (a2 : Int32) (a3 : Int64), ∃ (r : Int32) (g1 g2 : mG), ev none d mm_X11_put 0 [(.ref 0), (.int a1), (.int a2), (.long a3), .null, .null] [] g = some (some (.int r), g1) ∧ ev none d mm_X12_put 0 [(.ref 55), (.int a1), (.int a2), (.long a3), .null, .null, .null] [] g1 = some (some (.int r), g2) ∧ Inv g2
/-- element: both answer alike, and the invariant holds again -/
def op_element (Inv : mG → Prop) (d : Nat) : Prop := ∀ (g : mG), Inv g → ∀ (a1 : Int32) (a2 : Int32), ∃ (r : Int64) (g1 g2 : mG), ev none d mm_X11_element 0 [(.ref 0), (.int a1), (.int a2)] [] g = some (some (.long r), g1) ∧ ev none d mm_X12_element 0 [(.ref 55), (.int a1), (.int a2)] [] g1 = some (some (.long r), g2) ∧ Inv g2
/-- shift: both answer alike, and the invariant holds again -/
def op_shift (Inv : mG → Prop) (d : Nat) : Prop := ∀ (g : mG), Inv g → ∀ (a1 : Int32) (a2 : Int32) (a3 : Int32) (a4 : Int32) (a5 : Int32), ∃ (r : Int32) (g1 g2 : mG), ev none d mm_X11_shift 0 [(.ref 0), (.int a1), (.int a2), (.int a3), (.int a4), (.int a5)] [] g = some (some (.int r), g1) ∧ ev none d mm_X12_shift 0 [(.ref 55), (.int a1), (.int a2), (.int a3), (.int a4), (.int a5), .null] [] g1 = some (some (.int r), g2) ∧ Inv g2
/-- taken: both answer alike, and the invariant holds again -/
def op_taken (Inv : mG → Prop) (d : Nat) : Prop := ∀ (g : mG), Inv g → ∀ (a1 : Int32) (a2 : Int32), ∃ (r : Int32) (g1 g2 : mG), ev none d mm_X11_taken 0 [(.ref 0), (.int a1), (.int a2), .null] [] g = some (some (.int r), g1) ∧ ev none d mm_X12_taken 0 [(.ref 55), (.int a1), (.int a2)] [] g1 = some (some (.int r), g2) ∧ Inv g2
/-- count: both answer alike, and the invariant holds again -/
def op_count (Inv : mG → Prop) (d : Nat) : Prop := ∀ (g : mG), Inv g → ∀ (a1 : Int32), ∃ (r : Int32) (g1 g2 : mG), ev none d mm_X11_count 0 [(.ref 0), (.int a1)] [] g = some (some (.int r), g1) ∧ ev none d mm_X12_count 0 [(.ref 55), (.int a1)] [] g1 = some (some (.int r), g2) ∧ Inv g2
theorem e_nI6 {N j : Nat} (hN : N ≤ 3072) (hj : j ≤ 4000) (h : ¬ (Int32.ofNat N - (6 : Int32)) < nI j) : j + 6 ≤ N := by
  have e1 : (Int32.ofNat N - (6 : Int32)).toInt = (N : Int) - 6 := pk_sub_toInt (a := N) (b := 6) (by omega) (by omega)
  have e2 : (nI j).toInt = (j : Int) := nI_toInt (by omega)
  rw [Int32.lt_iff_toInt_lt, e1, e2] at h
  omega
theorem e_in {N j t : Nat} (hN : N ≤ 3072) (h : j + 6 ≤ N) (ht : t ≤ 5) {β : Type} (x : Option β) : m_in (nI j + nI t) N x = x := by
  rw [nI_add]
  unfold m_in
  exact if_neg (vp_in_nI (by omega) (by omega))
set_option maxHeartbeats 4000000 in
set_option maxRecDepth 100000 in
theorem law_go {Inv : mG → Prop} {d : Nat} (h_person : op_person Inv d) (h_promise : op_promise Inv d) (h_promises : op_promises Inv d) (h_mend : op_mend Inv d) (h_of : op_of Inv d) (h_feed : op_feed Inv d) (h_law : op_law Inv d) (h_hard : op_hard Inv d) (h_route : op_route Inv d) (h_held : op_held Inv d) (h_best : op_best Inv d) (h_soonest : op_soonest Inv d) (h_free : op_free Inv d) (h_words : op_words Inv d) (h_all : op_all Inv d) (h_ring : op_ring Inv d) (h_breaks : op_breaks Inv d) (h_judge : op_judge Inv d) (h_can : op_can Inv d) (h_who : op_who Inv d) (h_feeds : op_feeds Inv d) (h_odds : op_odds Inv d) (h_rued : op_rued Inv d) (h_byTurns : op_byTurns Inv d) (h_drawn : op_drawn Inv d) (h_step : op_step Inv d) (h_pull : op_pull Inv d) (h_letOff : op_letOff Inv d) (h_forget : op_forget Inv d) (h_day : op_day Inv d) (h_led : op_led Inv d) (h_image : op_image Inv d) (h_back : op_back Inv d) (h_undo : op_undo Inv d) (h_redo : op_redo Inv d) (h_body : op_body Inv d) (h_act : op_act Inv d) (h_trace : op_trace Inv d) (h_keep : op_keep Inv d) (h_row : op_row Inv d) (h_put : op_put Inv d) (h_element : op_element Inv d) (h_shift : op_shift Inv d) (h_taken : op_taken Inv d) (h_count : op_count Inv d) {N : Nat} (hN : N ≤ 3072) (xs : Nat → Int32) : ∀ (n j : Nat) (g : mG), Inv g → N < j + n → j ≤ N + 6 → ∃ g3, ev (some (N, xs)) (d + 1) mm_L_law 18 [(.ref 999), (.ref 0), (.ref 55), (.int (nI j))] [] g = some (some (.int 1), g3) := by
  intro n
  induction n with
  | zero =>
    intro j g hI h1 h2
    refine ⟨g, ?_⟩
    rw [b_L_law_18]
    by_cases hc : (Int32.ofNat N - (6 : Int32)) < nI j
    · rw [m_if_pos hc]
    · have := e_nI6 hN (by omega) hc
      omega
  | succ n ih =>
    intro j g hI hn1 hn2
    rw [b_L_law_18]
    by_cases hc : (Int32.ofNat N - (6 : Int32)) < nI j
    · rw [m_if_pos hc]
      exact ⟨g, rfl⟩
    rw [m_if_neg hc]
    have hj := e_nI6 hN (by omega) hc
    have i0 : ∀ {β : Type} (x : Option β), m_in (nI j) N x = x := fun x => if_neg (vp_in_nI (by omega) (by omega))
    have i1 : ∀ {β : Type} (x : Option β), m_in (nI j + (1 : Int32)) N x = x := e_in (t := 1) hN hj (by omega)
    have i2 : ∀ {β : Type} (x : Option β), m_in (nI j + (2 : Int32)) N x = x := e_in (t := 2) hN hj (by omega)
    have i3 : ∀ {β : Type} (x : Option β), m_in (nI j + (3 : Int32)) N x = x := e_in (t := 3) hN hj (by omega)
    have i4 : ∀ {β : Type} (x : Option β), m_in (nI j + (4 : Int32)) N x = x := e_in (t := 4) hN hj (by omega)
    have i5 : ∀ {β : Type} (x : Option β), m_in (nI j + (5 : Int32)) N x = x := e_in (t := 5) hN hj (by omega)
    have next : ∀ g2 : mG, Inv g2 → ∃ g3, ev (some (N, xs)) (d + 1) mm_L_law 1625 [(.ref 999), (.ref 0), (.ref 55), (.int (nI j))] [] g2 = some (some (.int 1), g3) := by
      intro g2 h2
      rw [b_L_law_1625, show nI j + (6 : Int32) = nI (j + 6) from nI_add j 6]
      exact ih (j + 6) g2 h2 (by omega) (by omega)
    rw [i0]
    by_cases hk : (xs (Int32.toNatClampNeg (nI j))) &&& (63 : Int32) = (0 : Int32)
    · obtain ⟨r, g1, g2, h1, h2, h3⟩ := h_person g hI ((xs (Int32.toNatClampNeg ((nI j) + (1 : Int32)))))
      rw [m_if_pos hk, i1, h1]
      show ∃ g3, ev (some (N, xs)) (d + 1) mm_L_law 237 [(.ref 999), (.ref 0), (.ref 55), (.int (nI j))] [(.int r)] g1 = some (some (.int 1), g3)
      rw [b_L_law_237, i1, h2]
      show ∃ g3, ev (some (N, xs)) (d + 1) mm_L_law 246 [(.ref 999), (.ref 0), (.ref 55), (.int (nI j))] [(.int r), (.int r)] g2 = some (some (.int 1), g3)
      rw [b_L_law_246, m_if_pos rfl]
      exact next g2 h3
    rw [m_if_neg hk]
    by_cases hk : (xs (Int32.toNatClampNeg (nI j))) &&& (63 : Int32) = (1 : Int32)
    · obtain ⟨r, g1, g2, h1, h2, h3⟩ := h_promise g hI ((xs (Int32.toNatClampNeg ((nI j) + (1 : Int32))))) ((xs (Int32.toNatClampNeg ((nI j) + (2 : Int32)))))
      rw [m_if_pos hk, i1, i2, h1]
      show ∃ g3, ev (some (N, xs)) (d + 1) mm_L_law 265 [(.ref 999), (.ref 0), (.ref 55), (.int (nI j))] [(.int r)] g1 = some (some (.int 1), g3)
      rw [b_L_law_265, i1, i2, h2]
      show ∃ g3, ev (some (N, xs)) (d + 1) mm_L_law 279 [(.ref 999), (.ref 0), (.ref 55), (.int (nI j))] [(.int r), (.int r)] g2 = some (some (.int 1), g3)
      rw [b_L_law_279, m_if_pos rfl]
      exact next g2 h3
    rw [m_if_neg hk]
    by_cases hk : (xs (Int32.toNatClampNeg (nI j))) &&& (63 : Int32) = (2 : Int32)
    · obtain ⟨r, g1, g2, h1, h2, h3⟩ := h_promises g hI ((xs (Int32.toNatClampNeg ((nI j) + (1 : Int32))))) ((xs (Int32.toNatClampNeg ((nI j) + (2 : Int32))))) ((xs (Int32.toNatClampNeg ((nI j) + (3 : Int32)))))
      rw [m_if_pos hk, i1, i2, i3, h1]
      show ∃ g3, ev (some (N, xs)) (d + 1) mm_L_law 303 [(.ref 999), (.ref 0), (.ref 55), (.int (nI j))] [(.int r)] g1 = some (some (.int 1), g3)
      rw [b_L_law_303, i1, i2, i3, h2]
      show ∃ g3, ev (some (N, xs)) (d + 1) mm_L_law 322 [(.ref 999), (.ref 0), (.ref 55), (.int (nI j))] [(.int r), (.int r)] g2 = some (some (.int 1), g3)
      rw [b_L_law_322, m_if_pos rfl]
      exact next g2 h3
    rw [m_if_neg hk]
    by_cases hk : (xs (Int32.toNatClampNeg (nI j))) &&& (63 : Int32) = (3 : Int32)
    · obtain ⟨r, g1, g2, h1, h2, h3⟩ := h_mend g hI ((xs (Int32.toNatClampNeg ((nI j) + (1 : Int32))))) ((xs (Int32.toNatClampNeg ((nI j) + (2 : Int32))))) ((xs (Int32.toNatClampNeg ((nI j) + (3 : Int32)))))
      rw [m_if_pos hk, i1, i2, i3, h1]
      show ∃ g3, ev (some (N, xs)) (d + 1) mm_L_law 346 [(.ref 999), (.ref 0), (.ref 55), (.int (nI j))] [(.int r)] g1 = some (some (.int 1), g3)
      rw [b_L_law_346, i1, i2, i3, h2]
      show ∃ g3, ev (some (N, xs)) (d + 1) mm_L_law 365 [(.ref 999), (.ref 0), (.ref 55), (.int (nI j))] [(.int r), (.int r)] g2 = some (some (.int 1), g3)
      rw [b_L_law_365, m_if_pos rfl]
      exact next g2 h3
    rw [m_if_neg hk]
    by_cases hk : (xs (Int32.toNatClampNeg (nI j))) &&& (63 : Int32) = (4 : Int32)
    · obtain ⟨r, g1, g2, h1, h2, h3⟩ := h_of g hI ((xs (Int32.toNatClampNeg ((nI j) + (1 : Int32))))) ((xs (Int32.toNatClampNeg ((nI j) + (2 : Int32)))))
      rw [m_if_pos hk, i1, i2, h1]
      show ∃ g3, ev (some (N, xs)) (d + 1) mm_L_law 384 [(.ref 999), (.ref 0), (.ref 55), (.int (nI j))] [(.int r)] g1 = some (some (.int 1), g3)
      rw [b_L_law_384, i1, i2, h2]
      show ∃ g3, ev (some (N, xs)) (d + 1) mm_L_law 398 [(.ref 999), (.ref 0), (.ref 55), (.int (nI j))] [(.int r), (.int r)] g2 = some (some (.int 1), g3)
      rw [b_L_law_398, m_if_pos rfl]
      exact next g2 h3
    rw [m_if_neg hk]
    by_cases hk : (xs (Int32.toNatClampNeg (nI j))) &&& (63 : Int32) = (5 : Int32)
    · obtain ⟨r, g1, g2, h1, h2, h3⟩ := h_feed g hI ((xs (Int32.toNatClampNeg ((nI j) + (1 : Int32)))))
      rw [m_if_pos hk, i1, h1]
      show ∃ g3, ev (some (N, xs)) (d + 1) mm_L_law 412 [(.ref 999), (.ref 0), (.ref 55), (.int (nI j))] [(.int r)] g1 = some (some (.int 1), g3)
      rw [b_L_law_412, i1, h2]
      show ∃ g3, ev (some (N, xs)) (d + 1) mm_L_law 421 [(.ref 999), (.ref 0), (.ref 55), (.int (nI j))] [(.int r), (.int r)] g2 = some (some (.int 1), g3)
      rw [b_L_law_421, m_if_pos rfl]
      exact next g2 h3
    rw [m_if_neg hk]
    by_cases hk : (xs (Int32.toNatClampNeg (nI j))) &&& (63 : Int32) = (6 : Int32)
    · obtain ⟨r, g1, g2, h1, h2, h3⟩ := h_law g hI trivial
      rw [m_if_pos hk, h1]
      show ∃ g3, ev (some (N, xs)) (d + 1) mm_L_law 430 [(.ref 999), (.ref 0), (.ref 55), (.int (nI j))] [(.int r)] g1 = some (some (.int 1), g3)
      rw [b_L_law_430, h2]
      show ∃ g3, ev (some (N, xs)) (d + 1) mm_L_law 434 [(.ref 999), (.ref 0), (.ref 55), (.int (nI j))] [(.int r), (.int r)] g2 = some (some (.int 1), g3)
      rw [b_L_law_434, m_if_pos rfl]
      exact next g2 h3
    rw [m_if_neg hk]
    by_cases hk : (xs (Int32.toNatClampNeg (nI j))) &&& (63 : Int32) = (7 : Int32)
    · obtain ⟨r, g1, g2, h1, h2, h3⟩ := h_hard g hI ((xs (Int32.toNatClampNeg ((nI j) + (1 : Int32)))))
      rw [m_if_pos hk, i1, h1]
      show ∃ g3, ev (some (N, xs)) (d + 1) mm_L_law 448 [(.ref 999), (.ref 0), (.ref 55), (.int (nI j))] [(.int r)] g1 = some (some (.int 1), g3)
      rw [b_L_law_448, i1, h2]
      show ∃ g3, ev (some (N, xs)) (d + 1) mm_L_law 457 [(.ref 999), (.ref 0), (.ref 55), (.int (nI j))] [(.int r), (.int r)] g2 = some (some (.int 1), g3)
      rw [b_L_law_457, m_if_pos rfl]
      exact next g2 h3
    rw [m_if_neg hk]
    by_cases hk : (xs (Int32.toNatClampNeg (nI j))) &&& (63 : Int32) = (8 : Int32)
    · obtain ⟨r, g1, g2, h1, h2, h3⟩ := h_route g hI ((xs (Int32.toNatClampNeg ((nI j) + (1 : Int32))))) ((xs (Int32.toNatClampNeg ((nI j) + (2 : Int32))))) ((xs (Int32.toNatClampNeg ((nI j) + (3 : Int32))))) ((xs (Int32.toNatClampNeg ((nI j) + (4 : Int32)))))
      rw [m_if_pos hk, i1, i2, i3, i4, h1]
      show ∃ g3, ev (some (N, xs)) (d + 1) mm_L_law 486 [(.ref 999), (.ref 0), (.ref 55), (.int (nI j))] [(.int r)] g1 = some (some (.int 1), g3)
      rw [b_L_law_486, i1, i2, i3, i4, h2]
      show ∃ g3, ev (some (N, xs)) (d + 1) mm_L_law 510 [(.ref 999), (.ref 0), (.ref 55), (.int (nI j))] [(.int r), (.int r)] g2 = some (some (.int 1), g3)
      rw [b_L_law_510, m_if_pos rfl]
      exact next g2 h3
    rw [m_if_neg hk]
    by_cases hk : (xs (Int32.toNatClampNeg (nI j))) &&& (63 : Int32) = (9 : Int32)
    · obtain ⟨r, g1, g2, h1, h2, h3⟩ := h_held g hI ((xs (Int32.toNatClampNeg ((nI j) + (1 : Int32))))) ((xs (Int32.toNatClampNeg ((nI j) + (2 : Int32)))))
      rw [m_if_pos hk, i1, i2, h1]
      show ∃ g3, ev (some (N, xs)) (d + 1) mm_L_law 529 [(.ref 999), (.ref 0), (.ref 55), (.int (nI j))] [(.int r)] g1 = some (some (.int 1), g3)
      rw [b_L_law_529, i1, i2, h2]
      show ∃ g3, ev (some (N, xs)) (d + 1) mm_L_law 543 [(.ref 999), (.ref 0), (.ref 55), (.int (nI j))] [(.int r), (.int r)] g2 = some (some (.int 1), g3)
      rw [b_L_law_543, m_if_pos rfl]
      exact next g2 h3
    rw [m_if_neg hk]
    by_cases hk : (xs (Int32.toNatClampNeg (nI j))) &&& (63 : Int32) = (10 : Int32)
    · obtain ⟨r, g1, g2, h1, h2, h3⟩ := h_best g hI ((xs (Int32.toNatClampNeg ((nI j) + (1 : Int32))))) ((xs (Int32.toNatClampNeg ((nI j) + (2 : Int32))))) ((xs (Int32.toNatClampNeg ((nI j) + (3 : Int32)))))
      rw [m_if_pos hk, i1, i2, i3, h1]
      show ∃ g3, ev (some (N, xs)) (d + 1) mm_L_law 567 [(.ref 999), (.ref 0), (.ref 55), (.int (nI j))] [(.int r)] g1 = some (some (.int 1), g3)
      rw [b_L_law_567, i1, i2, i3, h2]
      show ∃ g3, ev (some (N, xs)) (d + 1) mm_L_law 586 [(.ref 999), (.ref 0), (.ref 55), (.int (nI j))] [(.int r), (.int r)] g2 = some (some (.int 1), g3)
      rw [b_L_law_586, m_if_pos rfl]
      exact next g2 h3
    rw [m_if_neg hk]
    by_cases hk : (xs (Int32.toNatClampNeg (nI j))) &&& (63 : Int32) = (11 : Int32)
    · obtain ⟨r, g1, g2, h1, h2, h3⟩ := h_soonest g hI ((xs (Int32.toNatClampNeg ((nI j) + (1 : Int32))))) ((xs (Int32.toNatClampNeg ((nI j) + (2 : Int32)))))
      rw [m_if_pos hk, i1, i2, h1]
      show ∃ g3, ev (some (N, xs)) (d + 1) mm_L_law 605 [(.ref 999), (.ref 0), (.ref 55), (.int (nI j))] [(.int r)] g1 = some (some (.int 1), g3)
      rw [b_L_law_605, i1, i2, h2]
      show ∃ g3, ev (some (N, xs)) (d + 1) mm_L_law 619 [(.ref 999), (.ref 0), (.ref 55), (.int (nI j))] [(.int r), (.int r)] g2 = some (some (.int 1), g3)
      rw [b_L_law_619, m_if_pos rfl]
      exact next g2 h3
    rw [m_if_neg hk]
    by_cases hk : (xs (Int32.toNatClampNeg (nI j))) &&& (63 : Int32) = (12 : Int32)
    · obtain ⟨r, g1, g2, h1, h2, h3⟩ := h_free g hI ((xs (Int32.toNatClampNeg ((nI j) + (1 : Int32)))))
      rw [m_if_pos hk, i1, h1]
      show ∃ g3, ev (some (N, xs)) (d + 1) mm_L_law 633 [(.ref 999), (.ref 0), (.ref 55), (.int (nI j))] [(.int r)] g1 = some (some (.int 1), g3)
      rw [b_L_law_633, i1, h2]
      show ∃ g3, ev (some (N, xs)) (d + 1) mm_L_law 642 [(.ref 999), (.ref 0), (.ref 55), (.int (nI j))] [(.int r), (.int r)] g2 = some (some (.int 1), g3)
      rw [b_L_law_642, m_if_pos rfl]
      exact next g2 h3
    rw [m_if_neg hk]
    by_cases hk : (xs (Int32.toNatClampNeg (nI j))) &&& (63 : Int32) = (13 : Int32)
    · obtain ⟨r, g1, g2, h1, h2, h3⟩ := h_words g hI ((xs (Int32.toNatClampNeg ((nI j) + (1 : Int32))))) ((xs (Int32.toNatClampNeg ((nI j) + (2 : Int32)))))
      rw [m_if_pos hk, i1, i2, h1]
      show ∃ g3, ev (some (N, xs)) (d + 1) mm_L_law 661 [(.ref 999), (.ref 0), (.ref 55), (.int (nI j))] [(.int r)] g1 = some (some (.int 1), g3)
      rw [b_L_law_661, i1, i2, h2]
      show ∃ g3, ev (some (N, xs)) (d + 1) mm_L_law 675 [(.ref 999), (.ref 0), (.ref 55), (.int (nI j))] [(.int r), (.int r)] g2 = some (some (.int 1), g3)
      rw [b_L_law_675, m_if_pos rfl]
      exact next g2 h3
    rw [m_if_neg hk]
    by_cases hk : (xs (Int32.toNatClampNeg (nI j))) &&& (63 : Int32) = (14 : Int32)
    · obtain ⟨r, g1, g2, h1, h2, h3⟩ := h_all g hI ((xs (Int32.toNatClampNeg ((nI j) + (1 : Int32)))))
      rw [m_if_pos hk, i1, h1]
      show ∃ g3, ev (some (N, xs)) (d + 1) mm_L_law 689 [(.ref 999), (.ref 0), (.ref 55), (.int (nI j))] [(.int r)] g1 = some (some (.int 1), g3)
      rw [b_L_law_689, i1, h2]
      show ∃ g3, ev (some (N, xs)) (d + 1) mm_L_law 698 [(.ref 999), (.ref 0), (.ref 55), (.int (nI j))] [(.int r), (.int r)] g2 = some (some (.int 1), g3)
      rw [b_L_law_698, m_if_pos rfl]
      exact next g2 h3
    rw [m_if_neg hk]
    by_cases hk : (xs (Int32.toNatClampNeg (nI j))) &&& (63 : Int32) = (15 : Int32)
    · obtain ⟨r, g1, g2, h1, h2, h3⟩ := h_ring g hI trivial
      rw [m_if_pos hk, h1]
      show ∃ g3, ev (some (N, xs)) (d + 1) mm_L_law 707 [(.ref 999), (.ref 0), (.ref 55), (.int (nI j))] [(.int r)] g1 = some (some (.int 1), g3)
      rw [b_L_law_707, h2]
      show ∃ g3, ev (some (N, xs)) (d + 1) mm_L_law 711 [(.ref 999), (.ref 0), (.ref 55), (.int (nI j))] [(.int r), (.int r)] g2 = some (some (.int 1), g3)
      rw [b_L_law_711, m_if_pos rfl]
      exact next g2 h3
    rw [m_if_neg hk]
    by_cases hk : (xs (Int32.toNatClampNeg (nI j))) &&& (63 : Int32) = (16 : Int32)
    · obtain ⟨r, g1, g2, h1, h2, h3⟩ := h_breaks g hI ((xs (Int32.toNatClampNeg ((nI j) + (1 : Int32))))) ((xs (Int32.toNatClampNeg ((nI j) + (2 : Int32)))))
      rw [m_if_pos hk, i1, i2, h1]
      show ∃ g3, ev (some (N, xs)) (d + 1) mm_L_law 730 [(.ref 999), (.ref 0), (.ref 55), (.int (nI j))] [(.int r)] g1 = some (some (.int 1), g3)
      rw [b_L_law_730, i1, i2, h2]
      show ∃ g3, ev (some (N, xs)) (d + 1) mm_L_law 744 [(.ref 999), (.ref 0), (.ref 55), (.int (nI j))] [(.int r), (.int r)] g2 = some (some (.int 1), g3)
      rw [b_L_law_744, m_if_pos rfl]
      exact next g2 h3
    rw [m_if_neg hk]
    by_cases hk : (xs (Int32.toNatClampNeg (nI j))) &&& (63 : Int32) = (17 : Int32)
    · obtain ⟨r, g1, g2, h1, h2, h3⟩ := h_judge g hI ((xs (Int32.toNatClampNeg ((nI j) + (1 : Int32))))) ((xs (Int32.toNatClampNeg ((nI j) + (2 : Int32)))))
      rw [m_if_pos hk, i1, i2, h1]
      show ∃ g3, ev (some (N, xs)) (d + 1) mm_L_law 763 [(.ref 999), (.ref 0), (.ref 55), (.int (nI j))] [(.int r)] g1 = some (some (.int 1), g3)
      rw [b_L_law_763, i1, i2, h2]
      show ∃ g3, ev (some (N, xs)) (d + 1) mm_L_law 777 [(.ref 999), (.ref 0), (.ref 55), (.int (nI j))] [(.int r), (.int r)] g2 = some (some (.int 1), g3)
      rw [b_L_law_777, m_if_pos rfl]
      exact next g2 h3
    rw [m_if_neg hk]
    by_cases hk : (xs (Int32.toNatClampNeg (nI j))) &&& (63 : Int32) = (18 : Int32)
    · obtain ⟨r, g1, g2, h1, h2, h3⟩ := h_can g hI ((xs (Int32.toNatClampNeg ((nI j) + (1 : Int32))))) ((xs (Int32.toNatClampNeg ((nI j) + (2 : Int32)))))
      rw [m_if_pos hk, i1, i2, h1]
      show ∃ g3, ev (some (N, xs)) (d + 1) mm_L_law 796 [(.ref 999), (.ref 0), (.ref 55), (.int (nI j))] [(.int r)] g1 = some (some (.int 1), g3)
      rw [b_L_law_796, i1, i2, h2]
      show ∃ g3, ev (some (N, xs)) (d + 1) mm_L_law 810 [(.ref 999), (.ref 0), (.ref 55), (.int (nI j))] [(.int r), (.int r)] g2 = some (some (.int 1), g3)
      rw [b_L_law_810, m_if_pos rfl]
      exact next g2 h3
    rw [m_if_neg hk]
    by_cases hk : (xs (Int32.toNatClampNeg (nI j))) &&& (63 : Int32) = (19 : Int32)
    · obtain ⟨r, g1, g2, h1, h2, h3⟩ := h_who g hI ((xs (Int32.toNatClampNeg ((nI j) + (1 : Int32)))))
      rw [m_if_pos hk, i1, h1]
      show ∃ g3, ev (some (N, xs)) (d + 1) mm_L_law 824 [(.ref 999), (.ref 0), (.ref 55), (.int (nI j))] [(.int r)] g1 = some (some (.int 1), g3)
      rw [b_L_law_824, i1, h2]
      show ∃ g3, ev (some (N, xs)) (d + 1) mm_L_law 833 [(.ref 999), (.ref 0), (.ref 55), (.int (nI j))] [(.int r), (.int r)] g2 = some (some (.int 1), g3)
      rw [b_L_law_833, m_if_pos rfl]
      exact next g2 h3
    rw [m_if_neg hk]
    by_cases hk : (xs (Int32.toNatClampNeg (nI j))) &&& (63 : Int32) = (20 : Int32)
    · obtain ⟨r, g1, g2, h1, h2, h3⟩ := h_feeds g hI ((xs (Int32.toNatClampNeg ((nI j) + (1 : Int32))))) ((xs (Int32.toNatClampNeg ((nI j) + (2 : Int32)))))
      rw [m_if_pos hk, i1, i2, h1]
      show ∃ g3, ev (some (N, xs)) (d + 1) mm_L_law 852 [(.ref 999), (.ref 0), (.ref 55), (.int (nI j))] [(.int r)] g1 = some (some (.int 1), g3)
      rw [b_L_law_852, i1, i2, h2]
      show ∃ g3, ev (some (N, xs)) (d + 1) mm_L_law 866 [(.ref 999), (.ref 0), (.ref 55), (.int (nI j))] [(.int r), (.int r)] g2 = some (some (.int 1), g3)
      rw [b_L_law_866, m_if_pos rfl]
      exact next g2 h3
    rw [m_if_neg hk]
    by_cases hk : (xs (Int32.toNatClampNeg (nI j))) &&& (63 : Int32) = (21 : Int32)
    · obtain ⟨r, g1, g2, h1, h2, h3⟩ := h_odds g hI ((xs (Int32.toNatClampNeg ((nI j) + (1 : Int32))))) ((xs (Int32.toNatClampNeg ((nI j) + (2 : Int32)))))
      rw [m_if_pos hk, i1, i2, h1]
      show ∃ g3, ev (some (N, xs)) (d + 1) mm_L_law 885 [(.ref 999), (.ref 0), (.ref 55), (.int (nI j))] [(.long r)] g1 = some (some (.int 1), g3)
      rw [b_L_law_885, i1, i2, h2]
      show ∃ g3, ev (some (N, xs)) (d + 1) mm_L_law 899 [(.ref 999), (.ref 0), (.ref 55), (.int (nI j))] [(.long r), (.long r)] g2 = some (some (.int 1), g3)
      rw [b_L_law_899, m_if_pos (by simp [lg_cmp])]
      exact next g2 h3
    rw [m_if_neg hk]
    by_cases hk : (xs (Int32.toNatClampNeg (nI j))) &&& (63 : Int32) = (22 : Int32)
    · obtain ⟨r, g1, g2, h1, h2, h3⟩ := h_rued g hI ((xs (Int32.toNatClampNeg ((nI j) + (1 : Int32))))) ((xs (Int32.toNatClampNeg ((nI j) + (2 : Int32)))))
      rw [m_if_pos hk, i1, i2, h1]
      show ∃ g3, ev (some (N, xs)) (d + 1) mm_L_law 919 [(.ref 999), (.ref 0), (.ref 55), (.int (nI j))] [(.int r)] g1 = some (some (.int 1), g3)
      rw [b_L_law_919, i1, i2, h2]
      show ∃ g3, ev (some (N, xs)) (d + 1) mm_L_law 933 [(.ref 999), (.ref 0), (.ref 55), (.int (nI j))] [(.int r), (.int r)] g2 = some (some (.int 1), g3)
      rw [b_L_law_933, m_if_pos rfl]
      exact next g2 h3
    rw [m_if_neg hk]
    by_cases hk : (xs (Int32.toNatClampNeg (nI j))) &&& (63 : Int32) = (23 : Int32)
    · obtain ⟨r, g1, g2, h1, h2, h3⟩ := h_byTurns g hI ((xs (Int32.toNatClampNeg ((nI j) + (1 : Int32))))) ((xs (Int32.toNatClampNeg ((nI j) + (2 : Int32))))) ((xs (Int32.toNatClampNeg ((nI j) + (3 : Int32))))) ((xs (Int32.toNatClampNeg ((nI j) + (4 : Int32)))))
      rw [m_if_pos hk, i1, i2, i3, i4, h1]
      show ∃ g3, ev (some (N, xs)) (d + 1) mm_L_law 962 [(.ref 999), (.ref 0), (.ref 55), (.int (nI j))] [(.int r)] g1 = some (some (.int 1), g3)
      rw [b_L_law_962, i1, i2, i3, i4, h2]
      show ∃ g3, ev (some (N, xs)) (d + 1) mm_L_law 986 [(.ref 999), (.ref 0), (.ref 55), (.int (nI j))] [(.int r), (.int r)] g2 = some (some (.int 1), g3)
      rw [b_L_law_986, m_if_pos rfl]
      exact next g2 h3
    rw [m_if_neg hk]
    by_cases hk : (xs (Int32.toNatClampNeg (nI j))) &&& (63 : Int32) = (24 : Int32)
    · obtain ⟨r, g1, g2, h1, h2, h3⟩ := h_drawn g hI ((xs (Int32.toNatClampNeg ((nI j) + (1 : Int32))))) ((xs (Int32.toNatClampNeg ((nI j) + (2 : Int32))))) ((xs (Int32.toNatClampNeg ((nI j) + (3 : Int32))))) ((xs (Int32.toNatClampNeg ((nI j) + (4 : Int32)))))
      rw [m_if_pos hk, i1, i2, i3, i4, h1]
      show ∃ g3, ev (some (N, xs)) (d + 1) mm_L_law 1015 [(.ref 999), (.ref 0), (.ref 55), (.int (nI j))] [(.int r)] g1 = some (some (.int 1), g3)
      rw [b_L_law_1015, i1, i2, i3, i4, h2]
      show ∃ g3, ev (some (N, xs)) (d + 1) mm_L_law 1039 [(.ref 999), (.ref 0), (.ref 55), (.int (nI j))] [(.int r), (.int r)] g2 = some (some (.int 1), g3)
      rw [b_L_law_1039, m_if_pos rfl]
      exact next g2 h3
    rw [m_if_neg hk]
    by_cases hk : (xs (Int32.toNatClampNeg (nI j))) &&& (63 : Int32) = (25 : Int32)
    · obtain ⟨r, g1, g2, h1, h2, h3⟩ := h_step g hI ((xs (Int32.toNatClampNeg ((nI j) + (1 : Int32))))) ((xs (Int32.toNatClampNeg ((nI j) + (2 : Int32)))))
      rw [m_if_pos hk, i1, i2, h1]
      show ∃ g3, ev (some (N, xs)) (d + 1) mm_L_law 1058 [(.ref 999), (.ref 0), (.ref 55), (.int (nI j))] [(.int r)] g1 = some (some (.int 1), g3)
      rw [b_L_law_1058, i1, i2, h2]
      show ∃ g3, ev (some (N, xs)) (d + 1) mm_L_law 1072 [(.ref 999), (.ref 0), (.ref 55), (.int (nI j))] [(.int r), (.int r)] g2 = some (some (.int 1), g3)
      rw [b_L_law_1072, m_if_pos rfl]
      exact next g2 h3
    rw [m_if_neg hk]
    by_cases hk : (xs (Int32.toNatClampNeg (nI j))) &&& (63 : Int32) = (26 : Int32)
    · obtain ⟨r, g1, g2, h1, h2, h3⟩ := h_pull g hI ((xs (Int32.toNatClampNeg ((nI j) + (1 : Int32)))))
      rw [m_if_pos hk, i1, h1]
      show ∃ g3, ev (some (N, xs)) (d + 1) mm_L_law 1086 [(.ref 999), (.ref 0), (.ref 55), (.int (nI j))] [(.int r)] g1 = some (some (.int 1), g3)
      rw [b_L_law_1086, i1, h2]
      show ∃ g3, ev (some (N, xs)) (d + 1) mm_L_law 1095 [(.ref 999), (.ref 0), (.ref 55), (.int (nI j))] [(.int r), (.int r)] g2 = some (some (.int 1), g3)
      rw [b_L_law_1095, m_if_pos rfl]
      exact next g2 h3
    rw [m_if_neg hk]
    by_cases hk : (xs (Int32.toNatClampNeg (nI j))) &&& (63 : Int32) = (27 : Int32)
    · obtain ⟨r, g1, g2, h1, h2, h3⟩ := h_letOff g hI ((xs (Int32.toNatClampNeg ((nI j) + (1 : Int32)))))
      rw [m_if_pos hk, i1, h1]
      show ∃ g3, ev (some (N, xs)) (d + 1) mm_L_law 1109 [(.ref 999), (.ref 0), (.ref 55), (.int (nI j))] [(.int r)] g1 = some (some (.int 1), g3)
      rw [b_L_law_1109, i1, h2]
      show ∃ g3, ev (some (N, xs)) (d + 1) mm_L_law 1118 [(.ref 999), (.ref 0), (.ref 55), (.int (nI j))] [(.int r), (.int r)] g2 = some (some (.int 1), g3)
      rw [b_L_law_1118, m_if_pos rfl]
      exact next g2 h3
    rw [m_if_neg hk]
    by_cases hk : (xs (Int32.toNatClampNeg (nI j))) &&& (63 : Int32) = (28 : Int32)
    · obtain ⟨r, g1, g2, h1, h2, h3⟩ := h_forget g hI ((xs (Int32.toNatClampNeg ((nI j) + (1 : Int32)))))
      rw [m_if_pos hk, i1, h1]
      show ∃ g3, ev (some (N, xs)) (d + 1) mm_L_law 1132 [(.ref 999), (.ref 0), (.ref 55), (.int (nI j))] [(.int r)] g1 = some (some (.int 1), g3)
      rw [b_L_law_1132, i1, h2]
      show ∃ g3, ev (some (N, xs)) (d + 1) mm_L_law 1141 [(.ref 999), (.ref 0), (.ref 55), (.int (nI j))] [(.int r), (.int r)] g2 = some (some (.int 1), g3)
      rw [b_L_law_1141, m_if_pos rfl]
      exact next g2 h3
    rw [m_if_neg hk]
    by_cases hk : (xs (Int32.toNatClampNeg (nI j))) &&& (63 : Int32) = (29 : Int32)
    · obtain ⟨r, g1, g2, h1, h2, h3⟩ := h_day g hI trivial
      rw [m_if_pos hk, h1]
      show ∃ g3, ev (some (N, xs)) (d + 1) mm_L_law 1150 [(.ref 999), (.ref 0), (.ref 55), (.int (nI j))] [(.int r)] g1 = some (some (.int 1), g3)
      rw [b_L_law_1150, h2]
      show ∃ g3, ev (some (N, xs)) (d + 1) mm_L_law 1154 [(.ref 999), (.ref 0), (.ref 55), (.int (nI j))] [(.int r), (.int r)] g2 = some (some (.int 1), g3)
      rw [b_L_law_1154, m_if_pos rfl]
      exact next g2 h3
    rw [m_if_neg hk]
    by_cases hk : (xs (Int32.toNatClampNeg (nI j))) &&& (63 : Int32) = (30 : Int32)
    · obtain ⟨r, g1, g2, h1, h2, h3⟩ := h_led g hI ((xs (Int32.toNatClampNeg ((nI j) + (1 : Int32)))))
      rw [m_if_pos hk, i1, h1]
      show ∃ g3, ev (some (N, xs)) (d + 1) mm_L_law 1168 [(.ref 999), (.ref 0), (.ref 55), (.int (nI j))] [(.int r)] g1 = some (some (.int 1), g3)
      rw [b_L_law_1168, i1, h2]
      show ∃ g3, ev (some (N, xs)) (d + 1) mm_L_law 1177 [(.ref 999), (.ref 0), (.ref 55), (.int (nI j))] [(.int r), (.int r)] g2 = some (some (.int 1), g3)
      rw [b_L_law_1177, m_if_pos rfl]
      exact next g2 h3
    rw [m_if_neg hk]
    by_cases hk : (xs (Int32.toNatClampNeg (nI j))) &&& (63 : Int32) = (31 : Int32)
    · obtain ⟨r, g1, g2, h1, h2, h3⟩ := h_image g hI trivial
      rw [m_if_pos hk, h1]
      show ∃ g3, ev (some (N, xs)) (d + 1) mm_L_law 1186 [(.ref 999), (.ref 0), (.ref 55), (.int (nI j))] [(.int r)] g1 = some (some (.int 1), g3)
      rw [b_L_law_1186, h2]
      show ∃ g3, ev (some (N, xs)) (d + 1) mm_L_law 1190 [(.ref 999), (.ref 0), (.ref 55), (.int (nI j))] [(.int r), (.int r)] g2 = some (some (.int 1), g3)
      rw [b_L_law_1190, m_if_pos rfl]
      exact next g2 h3
    rw [m_if_neg hk]
    by_cases hk : (xs (Int32.toNatClampNeg (nI j))) &&& (63 : Int32) = (32 : Int32)
    · obtain ⟨r, g1, g2, h1, h2, h3⟩ := h_back g hI trivial
      rw [m_if_pos hk, h1]
      show ∃ g3, ev (some (N, xs)) (d + 1) mm_L_law 1199 [(.ref 999), (.ref 0), (.ref 55), (.int (nI j))] [(.int r)] g1 = some (some (.int 1), g3)
      rw [b_L_law_1199, h2]
      show ∃ g3, ev (some (N, xs)) (d + 1) mm_L_law 1203 [(.ref 999), (.ref 0), (.ref 55), (.int (nI j))] [(.int r), (.int r)] g2 = some (some (.int 1), g3)
      rw [b_L_law_1203, m_if_pos rfl]
      exact next g2 h3
    rw [m_if_neg hk]
    by_cases hk : (xs (Int32.toNatClampNeg (nI j))) &&& (63 : Int32) = (33 : Int32)
    · obtain ⟨r, g1, g2, h1, h2, h3⟩ := h_undo g hI trivial
      rw [m_if_pos hk, h1]
      show ∃ g3, ev (some (N, xs)) (d + 1) mm_L_law 1212 [(.ref 999), (.ref 0), (.ref 55), (.int (nI j))] [(.int r)] g1 = some (some (.int 1), g3)
      rw [b_L_law_1212, h2]
      show ∃ g3, ev (some (N, xs)) (d + 1) mm_L_law 1216 [(.ref 999), (.ref 0), (.ref 55), (.int (nI j))] [(.int r), (.int r)] g2 = some (some (.int 1), g3)
      rw [b_L_law_1216, m_if_pos rfl]
      exact next g2 h3
    rw [m_if_neg hk]
    by_cases hk : (xs (Int32.toNatClampNeg (nI j))) &&& (63 : Int32) = (34 : Int32)
    · obtain ⟨r, g1, g2, h1, h2, h3⟩ := h_redo g hI trivial
      rw [m_if_pos hk, h1]
      show ∃ g3, ev (some (N, xs)) (d + 1) mm_L_law 1225 [(.ref 999), (.ref 0), (.ref 55), (.int (nI j))] [(.int r)] g1 = some (some (.int 1), g3)
      rw [b_L_law_1225, h2]
      show ∃ g3, ev (some (N, xs)) (d + 1) mm_L_law 1229 [(.ref 999), (.ref 0), (.ref 55), (.int (nI j))] [(.int r), (.int r)] g2 = some (some (.int 1), g3)
      rw [b_L_law_1229, m_if_pos rfl]
      exact next g2 h3
    rw [m_if_neg hk]
    by_cases hk : (xs (Int32.toNatClampNeg (nI j))) &&& (63 : Int32) = (35 : Int32)
    · obtain ⟨r, g1, g2, h1, h2, h3⟩ := h_body g hI ((xs (Int32.toNatClampNeg ((nI j) + (1 : Int32)))))
      rw [m_if_pos hk, i1, h1]
      show ∃ g3, ev (some (N, xs)) (d + 1) mm_L_law 1243 [(.ref 999), (.ref 0), (.ref 55), (.int (nI j))] [(.int r)] g1 = some (some (.int 1), g3)
      rw [b_L_law_1243, i1, h2]
      show ∃ g3, ev (some (N, xs)) (d + 1) mm_L_law 1252 [(.ref 999), (.ref 0), (.ref 55), (.int (nI j))] [(.int r), (.int r)] g2 = some (some (.int 1), g3)
      rw [b_L_law_1252, m_if_pos rfl]
      exact next g2 h3
    rw [m_if_neg hk]
    by_cases hk : (xs (Int32.toNatClampNeg (nI j))) &&& (63 : Int32) = (36 : Int32)
    · obtain ⟨r, g1, g2, h1, h2, h3⟩ := h_act g hI ((xs (Int32.toNatClampNeg ((nI j) + (1 : Int32))))) ((xs (Int32.toNatClampNeg ((nI j) + (2 : Int32))))) ((xs (Int32.toNatClampNeg ((nI j) + (3 : Int32)))))
      rw [m_if_pos hk, i1, i2, i3, h1]
      show ∃ g3, ev (some (N, xs)) (d + 1) mm_L_law 1276 [(.ref 999), (.ref 0), (.ref 55), (.int (nI j))] [(.int r)] g1 = some (some (.int 1), g3)
      rw [b_L_law_1276, i1, i2, i3, h2]
      show ∃ g3, ev (some (N, xs)) (d + 1) mm_L_law 1295 [(.ref 999), (.ref 0), (.ref 55), (.int (nI j))] [(.int r), (.int r)] g2 = some (some (.int 1), g3)
      rw [b_L_law_1295, m_if_pos rfl]
      exact next g2 h3
    rw [m_if_neg hk]
    by_cases hk : (xs (Int32.toNatClampNeg (nI j))) &&& (63 : Int32) = (37 : Int32)
    · obtain ⟨r, g1, g2, h1, h2, h3⟩ := h_trace g hI ((xs (Int32.toNatClampNeg ((nI j) + (1 : Int32)))))
      rw [m_if_pos hk, i1, h1]
      show ∃ g3, ev (some (N, xs)) (d + 1) mm_L_law 1309 [(.ref 999), (.ref 0), (.ref 55), (.int (nI j))] [(.int r)] g1 = some (some (.int 1), g3)
      rw [b_L_law_1309, i1, h2]
      show ∃ g3, ev (some (N, xs)) (d + 1) mm_L_law 1318 [(.ref 999), (.ref 0), (.ref 55), (.int (nI j))] [(.int r), (.int r)] g2 = some (some (.int 1), g3)
      rw [b_L_law_1318, m_if_pos rfl]
      exact next g2 h3
    rw [m_if_neg hk]
    by_cases hk : (xs (Int32.toNatClampNeg (nI j))) &&& (63 : Int32) = (38 : Int32)
    · obtain ⟨r, g1, g2, h1, h2, h3⟩ := h_keep g hI ((xs (Int32.toNatClampNeg ((nI j) + (1 : Int32))))) ((xs (Int32.toNatClampNeg ((nI j) + (2 : Int32)))))
      rw [m_if_pos hk, i1, i2, h1]
      show ∃ g3, ev (some (N, xs)) (d + 1) mm_L_law 1337 [(.ref 999), (.ref 0), (.ref 55), (.int (nI j))] [(.int r)] g1 = some (some (.int 1), g3)
      rw [b_L_law_1337, i1, i2, h2]
      show ∃ g3, ev (some (N, xs)) (d + 1) mm_L_law 1351 [(.ref 999), (.ref 0), (.ref 55), (.int (nI j))] [(.int r), (.int r)] g2 = some (some (.int 1), g3)
      rw [b_L_law_1351, m_if_pos rfl]
      exact next g2 h3
    rw [m_if_neg hk]
    by_cases hk : (xs (Int32.toNatClampNeg (nI j))) &&& (63 : Int32) = (39 : Int32)
    · obtain ⟨r, g1, g2, h1, h2, h3⟩ := h_row g hI ((xs (Int32.toNatClampNeg ((nI j) + (1 : Int32))))) ((xs (Int32.toNatClampNeg ((nI j) + (2 : Int32))))) ((xs (Int32.toNatClampNeg ((nI j) + (3 : Int32)))))
      rw [m_if_pos hk, i1, i2, i3, h1]
      show ∃ g3, ev (some (N, xs)) (d + 1) mm_L_law 1375 [(.ref 999), (.ref 0), (.ref 55), (.int (nI j))] [(.int r)] g1 = some (some (.int 1), g3)
      rw [b_L_law_1375, i1, i2, i3, h2]
      show ∃ g3, ev (some (N, xs)) (d + 1) mm_L_law 1394 [(.ref 999), (.ref 0), (.ref 55), (.int (nI j))] [(.int r), (.int r)] g2 = some (some (.int 1), g3)
      rw [b_L_law_1394, m_if_pos rfl]
      exact next g2 h3
    rw [m_if_neg hk]
    by_cases hk : (xs (Int32.toNatClampNeg (nI j))) &&& (63 : Int32) = (40 : Int32)
    · obtain ⟨r, g1, g2, h1, h2, h3⟩ := h_put g hI ((xs (Int32.toNatClampNeg ((nI j) + (1 : Int32))))) ((xs (Int32.toNatClampNeg ((nI j) + (2 : Int32))))) ((((Int32.toInt64 (xs (Int32.toNatClampNeg ((nI j) + (3 : Int32))))) <<< (Int32.toInt64 (32 : Int32) &&& 63)) ||| ((Int32.toInt64 (xs (Int32.toNatClampNeg ((nI j) + (4 : Int32))))) &&& (4294967295 : Int64))))
      rw [m_if_pos hk, i1, i2, i3, i4, h1]
      show ∃ g3, ev (some (N, xs)) (d + 1) mm_L_law 1433 [(.ref 999), (.ref 0), (.ref 55), (.int (nI j))] [(.int r)] g1 = some (some (.int 1), g3)
      rw [b_L_law_1433, i1, i2, i3, i4, h2]
      show ∃ g3, ev (some (N, xs)) (d + 1) mm_L_law 1467 [(.ref 999), (.ref 0), (.ref 55), (.int (nI j))] [(.int r), (.int r)] g2 = some (some (.int 1), g3)
      rw [b_L_law_1467, m_if_pos rfl]
      exact next g2 h3
    rw [m_if_neg hk]
    by_cases hk : (xs (Int32.toNatClampNeg (nI j))) &&& (63 : Int32) = (41 : Int32)
    · obtain ⟨r, g1, g2, h1, h2, h3⟩ := h_element g hI ((xs (Int32.toNatClampNeg ((nI j) + (1 : Int32))))) ((xs (Int32.toNatClampNeg ((nI j) + (2 : Int32)))))
      rw [m_if_pos hk, i1, i2, h1]
      show ∃ g3, ev (some (N, xs)) (d + 1) mm_L_law 1486 [(.ref 999), (.ref 0), (.ref 55), (.int (nI j))] [(.long r)] g1 = some (some (.int 1), g3)
      rw [b_L_law_1486, i1, i2, h2]
      show ∃ g3, ev (some (N, xs)) (d + 1) mm_L_law 1500 [(.ref 999), (.ref 0), (.ref 55), (.int (nI j))] [(.long r), (.long r)] g2 = some (some (.int 1), g3)
      rw [b_L_law_1500, m_if_pos (by simp [lg_cmp])]
      exact next g2 h3
    rw [m_if_neg hk]
    by_cases hk : (xs (Int32.toNatClampNeg (nI j))) &&& (63 : Int32) = (42 : Int32)
    · obtain ⟨r, g1, g2, h1, h2, h3⟩ := h_shift g hI ((xs (Int32.toNatClampNeg ((nI j) + (1 : Int32))))) ((xs (Int32.toNatClampNeg ((nI j) + (2 : Int32))))) ((xs (Int32.toNatClampNeg ((nI j) + (3 : Int32))))) ((xs (Int32.toNatClampNeg ((nI j) + (4 : Int32))))) ((xs (Int32.toNatClampNeg ((nI j) + (5 : Int32)))))
      rw [m_if_pos hk, i1, i2, i3, i4, i5, h1]
      show ∃ g3, ev (some (N, xs)) (d + 1) mm_L_law 1535 [(.ref 999), (.ref 0), (.ref 55), (.int (nI j))] [(.int r)] g1 = some (some (.int 1), g3)
      rw [b_L_law_1535, i1, i2, i3, i4, i5, h2]
      show ∃ g3, ev (some (N, xs)) (d + 1) mm_L_law 1564 [(.ref 999), (.ref 0), (.ref 55), (.int (nI j))] [(.int r), (.int r)] g2 = some (some (.int 1), g3)
      rw [b_L_law_1564, m_if_pos rfl]
      exact next g2 h3
    rw [m_if_neg hk]
    by_cases hk : (xs (Int32.toNatClampNeg (nI j))) &&& (63 : Int32) = (43 : Int32)
    · obtain ⟨r, g1, g2, h1, h2, h3⟩ := h_taken g hI ((xs (Int32.toNatClampNeg ((nI j) + (1 : Int32))))) ((xs (Int32.toNatClampNeg ((nI j) + (2 : Int32)))))
      rw [m_if_pos hk, i1, i2, h1]
      show ∃ g3, ev (some (N, xs)) (d + 1) mm_L_law 1583 [(.ref 999), (.ref 0), (.ref 55), (.int (nI j))] [(.int r)] g1 = some (some (.int 1), g3)
      rw [b_L_law_1583, i1, i2, h2]
      show ∃ g3, ev (some (N, xs)) (d + 1) mm_L_law 1597 [(.ref 999), (.ref 0), (.ref 55), (.int (nI j))] [(.int r), (.int r)] g2 = some (some (.int 1), g3)
      rw [b_L_law_1597, m_if_pos rfl]
      exact next g2 h3
    rw [m_if_neg hk]
    by_cases hk : (xs (Int32.toNatClampNeg (nI j))) &&& (63 : Int32) = (44 : Int32)
    · obtain ⟨r, g1, g2, h1, h2, h3⟩ := h_count g hI ((xs (Int32.toNatClampNeg ((nI j) + (1 : Int32)))))
      rw [m_if_pos hk, i1, h1]
      show ∃ g3, ev (some (N, xs)) (d + 1) mm_L_law 1611 [(.ref 999), (.ref 0), (.ref 55), (.int (nI j))] [(.int r)] g1 = some (some (.int 1), g3)
      rw [b_L_law_1611, i1, h2]
      show ∃ g3, ev (some (N, xs)) (d + 1) mm_L_law 1620 [(.ref 999), (.ref 0), (.ref 55), (.int (nI j))] [(.int r), (.int r)] g2 = some (some (.int 1), g3)
      rw [b_L_law_1620, m_if_pos rfl]
      exact next g2 h3
    rw [m_if_neg hk]
    exact next g hI
/-- all that is left: an invariant that the fresh state has and each operation keeps -/
theorem law_math {Inv : mG → Prop} (h0 : Inv g0) (h_person : op_person Inv 1299) (h_promise : op_promise Inv 1299) (h_promises : op_promises Inv 1299) (h_mend : op_mend Inv 1299) (h_of : op_of Inv 1299) (h_feed : op_feed Inv 1299) (h_law : op_law Inv 1299) (h_hard : op_hard Inv 1299) (h_route : op_route Inv 1299) (h_held : op_held Inv 1299) (h_best : op_best Inv 1299) (h_soonest : op_soonest Inv 1299) (h_free : op_free Inv 1299) (h_words : op_words Inv 1299) (h_all : op_all Inv 1299) (h_ring : op_ring Inv 1299) (h_breaks : op_breaks Inv 1299) (h_judge : op_judge Inv 1299) (h_can : op_can Inv 1299) (h_who : op_who Inv 1299) (h_feeds : op_feeds Inv 1299) (h_odds : op_odds Inv 1299) (h_rued : op_rued Inv 1299) (h_byTurns : op_byTurns Inv 1299) (h_drawn : op_drawn Inv 1299) (h_step : op_step Inv 1299) (h_pull : op_pull Inv 1299) (h_letOff : op_letOff Inv 1299) (h_forget : op_forget Inv 1299) (h_day : op_day Inv 1299) (h_led : op_led Inv 1299) (h_image : op_image Inv 1299) (h_back : op_back Inv 1299) (h_undo : op_undo Inv 1299) (h_redo : op_redo Inv 1299) (h_body : op_body Inv 1299) (h_act : op_act Inv 1299) (h_trace : op_trace Inv 1299) (h_keep : op_keep Inv 1299) (h_row : op_row Inv 1299) (h_put : op_put Inv 1299) (h_element : op_element Inv 1299) (h_shift : op_shift Inv 1299) (h_taken : op_taken Inv 1299) (h_count : op_count Inv 1299) : ∀ (L : Nat) (xs : Nat → Int32), L ≤ 3072 → ∃ g2 : mG, ev (some (L, xs)) 1300 mm_L_law 16 [.ref 999, .ref 0, .ref 55, .null] [] g0 = some (some (.int 1), g2) := by
  intro L xs hL
  rw [b_L_law_16]
  exact law_go (d := 1299) h_person h_promise h_promises h_mend h_of h_feed h_law h_hard h_route h_held h_best h_soonest h_free h_words h_all h_ring h_breaks h_judge h_can h_who h_feeds h_odds h_rued h_byTurns h_drawn h_step h_pull h_letOff h_forget h_day h_led h_image h_back h_undo h_redo h_body h_act h_trace h_keep h_row h_put h_element h_shift h_taken h_count hL xs (L + 1) 0 g0 h0 (by omega) (by omega)
