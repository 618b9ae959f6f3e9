/-! THE TABLES' WORDS: which a call hands on, and which are handed on one by one -/
/-- the words of the tables that a call hands on -/
def mm_B : List Cond := lw_tbl.filter goodWord
/-- words of nest mates, casts, arrays over classes: they are handed on one by one -/
def mm_isN (w : Cond) : Bool := match w with
  | .fieldLinkNest .. => true
  | .methodLinkNest .. => true
  | .castable .. => true
  | .declares .. => true
  | .arrayOver (.object _) => true
  | _ => false
theorem mm_isN.moved {w : Cond} (hw : mm_isN w = true) {s U : State} (hW : s.WarmedH U.vm) (h : va_Nw w s) : va_Nw w U := by
  unfold mm_isN at hw
  split at hw
  · exact va_Nw.warmF hW h
  · exact va_Nw.warmM hW h
  · exact va_Nw.warmC hW h
  · exact va_Nw.warmD hW h
  · exact va_AO.moved hW.alike h
  · cases hw
/-- words of the tables -/
theorem mm_inB {w : Cond} (h : w ∈ lw_tbl) (hg : goodWord w = true) : w ∈ mm_B := List.mem_filter.mpr ⟨h, hg⟩
theorem mm_goodB {ws : List Cond} (h : ∀ w ∈ ws, w ∈ mm_B) : GoodIn mm_B ws := fun w hw => ⟨h w hw, good_of_word (List.mem_filter.mp (h w hw)).2⟩
