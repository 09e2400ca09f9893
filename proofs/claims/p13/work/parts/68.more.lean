/-! codes and links of methods that came later -/
