/-! values: joined, held, kept, unit -/
def s_G : Int64 := 1000000000
def s_held (v : Int64) : Int64 := if (if v < (1000000000 : Int64) then v else (1000000000 : Int64)) < (-1000000000 : Int64) then (-1000000000 : Int64) else (if v < (1000000000 : Int64) then v else (1000000000 : Int64))
/-- two values joined by a sign's byte -/
def s_jn (g : Int32) (a b : Int64) : Int64 := if g = 42 then a * b else if g = 43 then a + b else if g = 45 then a - b else if g = 47 then (if b = 0 then 0 else a / b) else if g = 60 then (if a < b then 1 else 0) else if g = 61 then (if a = b then 1 else 0) else (if b < a then 1 else 0)
theorem lc_lt {a b : Int64} : lg_cmp a b < 0 ↔ a < b := by
  unfold lg_cmp
  by_cases h : a < b
  · simp [h]
  · by_cases e : a = b
    · subst e; simp [h]
    · simp [h, e]
