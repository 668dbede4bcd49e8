theorem tt1 (x : Int32) : x = x := rfl
